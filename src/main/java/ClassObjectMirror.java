/**
 * A mirror of types as the running machine has them, and of objects of these types.
 * Types and objects are told by their numbers; the document's promises say what each call answers.
 */
public final class ClassObjectMirror {
    public static final int REFUSED = -1;
    public static final int NO_ARRAY = -2;
    public static final int NEGATIVE = -3;
    public static final int BAD_CAST = -4;
    public static final int BAD_INDEX = -5;
    public static final int BAD_STORE = -6;
    public static final int NONE = -7;
    public static final int FULL = -8;
    public static final long ABSENT = 10000000000L;

    private static final int TYPE_BOOLEAN = 0;
    private static final int TYPE_BYTE = 1;
    private static final int TYPE_CHAR = 2;
    private static final int TYPE_SHORT = 3;
    private static final int TYPE_FLOAT = 6;
    private static final int LAST_BASE = 7;
    private static final int TYPE_VOID = 8;
    private static final int TYPE_OBJECT = 9;
    private static final int TYPE_CLONEABLE = 10;
    private static final int TYPE_SERIALIZABLE = 11;
    private static final int TYPE_STRING = 12;
    private static final int TYPE_CIRCLE = 16;
    private static final int TYPE_SQUARE = 17;
    private static final int TYPE_TILE = 18;
    private static final int TYPE_COLOR = 19;
    private static final int TYPE_POINT = 20;
    private static final int TYPE_HOLDER = 21;
    private static final int FIRST_ARRAY_TYPE = 22;

    private static final int MAX_TYPES = 300;
    private static final int MAX_DIMENSIONS = 255;
    private static final int MAX_OBJECTS = 80;
    private static final int MAX_LENGTH = 8;
    private static final int COLORS = 3;

    private static final int MARKS_OF_ACCESS = 1 | 2 | 4;
    private static final int MARK_FINAL = 16;
    private static final int MARKS_OF_BASE = 1041;

    private static final int KIND_BASE_OR_VOID = 1;
    private static final int KIND_INTERFACE = 2;
    private static final int KIND_ARRAY = 4;
    private static final int KIND_ENUM = 8;
    private static final int KIND_RECORD = 16;
    private static final int KIND_MEMBER = 32;

    /** No array type has the number 0, so it can stand for one that has no number yet. */
    private static final int NOT_NUMBERED = 0;

    private static final FixedType[] FIXED = FixedType.values();

    /** The types 0 .. 21, in the order of their numbers; supertypes stand before what is below them. */
    private enum FixedType {
        BOOLEAN(0, "boolean", "Z"),
        BYTE(1, "byte", "B"),
        CHAR(2, "char", "C"),
        SHORT(3, "short", "S"),
        INT(4, "int", "I"),
        LONG(5, "long", "J"),
        FLOAT(6, "float", "F"),
        DOUBLE(7, "double", "D"),
        VOID(8, "void", "V"),
        OBJECT(9, "java.lang.Object", 1, 0, 0),
        CLONEABLE(10, "java.lang.Cloneable", 1537, KIND_INTERFACE, OBJECT.lineage),
        SERIALIZABLE(11, "java.io.Serializable", 1537, KIND_INTERFACE, OBJECT.lineage),
        STRING(12, "java.lang.String", 17, 0, OBJECT.lineage | SERIALIZABLE.lineage),
        SHAPE(13, "ClassObjectMirror$Shape", 1546, KIND_MEMBER | KIND_INTERFACE, OBJECT.lineage),
        NAMED(14, "ClassObjectMirror$Named", 1544, KIND_MEMBER | KIND_INTERFACE, OBJECT.lineage),
        BASE(15, "ClassObjectMirror$Base", 1034, KIND_MEMBER, OBJECT.lineage | NAMED.lineage),
        CIRCLE(16, "ClassObjectMirror$Circle", 26, KIND_MEMBER, BASE.lineage | SHAPE.lineage),
        SQUARE(17, "ClassObjectMirror$Square", 10, KIND_MEMBER, BASE.lineage),
        TILE(18, "ClassObjectMirror$Tile", 24, KIND_MEMBER, SQUARE.lineage | CLONEABLE.lineage),
        COLOR(19, "ClassObjectMirror$Color", 26, KIND_MEMBER | KIND_ENUM,
                OBJECT.lineage | SERIALIZABLE.lineage | NAMED.lineage),
        POINT(20, "ClassObjectMirror$Point", 26, KIND_MEMBER | KIND_RECORD, OBJECT.lineage | NAMED.lineage),
        HOLDER(21, "ClassObjectMirror$Holder", 8, KIND_MEMBER, OBJECT.lineage);

        private final String fullName;
        private final int simpleStart;
        private final String code;
        private final int markSum;
        private final int kindSum;
        /** Bit n is set if type n is a supertype; every type is its own. */
        private final int lineage;

        /** A base or void. */
        FixedType(int number, String fullName, String code) {
            this.fullName = fullName;
            this.simpleStart = 0;
            this.code = code;
            this.markSum = MARKS_OF_BASE;
            this.kindSum = KIND_BASE_OR_VOID;
            this.lineage = 1 << number;
        }

        /** A class or interface, with the lineages of its direct supertypes in one. */
        FixedType(int number, String fullName, int markSum, int kindSum, int inherited) {
            this.fullName = fullName;
            this.simpleStart = startOfLastWord(fullName);
            this.code = "";
            this.markSum = markSum;
            this.kindSum = kindSum;
            this.lineage = inherited | 1 << number;
        }

        private static int startOfLastWord(String fullName) {
            int start = 0;
            for (int i = 0; i < fullName.length(); i++) {
                char c = fullName.charAt(i);
                if (c == '.' || c == '$') {
                    start = i + 1;
                }
            }
            return start;
        }

        private int simpleLength() {
            return fullName.length() - simpleStart;
        }

        /** A character of the code or, where there is none, of L, the name with this separator for its dots, and ; . */
        private int codedCharacter(int index, char separator) {
            if (!code.isEmpty()) {
                return characterOf(code, index);
            }
            if (index == 0) {
                return 'L';
            }
            if (index == fullName.length() + 1) {
                return ';';
            }
            int c = characterOf(fullName, index - 1);
            return c == '.' ? separator : c;
        }
    }

    private int typeCount;
    private final int[] componentOfType;
    private final int[] dimensionsOfType;
    /** What an array type is an array of when all its dimensions are taken off; a fixed type itself. */
    private final int[] rootOfType;
    private final int[] arrayTypeOfType;

    private int objectCount;
    private final int[] classOfObject;
    private final int[] valueOfObject;
    private final int[] lengthOfObject;
    /** MAX_LENGTH places for each object: values of a base, or numbers of objects and NONE. */
    private final long[] elements;
    private final int[] objectOfColor;

    public ClassObjectMirror() {
        typeCount = FIRST_ARRAY_TYPE;
        componentOfType = new int[MAX_TYPES];
        dimensionsOfType = new int[MAX_TYPES];
        rootOfType = new int[MAX_TYPES];
        arrayTypeOfType = new int[MAX_TYPES];
        for (int type = 0; type < FIRST_ARRAY_TYPE; type++) {
            componentOfType[type] = NONE;
            rootOfType[type] = type;
        }
        objectCount = 0;
        classOfObject = new int[MAX_OBJECTS];
        valueOfObject = new int[MAX_OBJECTS];
        lengthOfObject = new int[MAX_OBJECTS];
        elements = new long[MAX_OBJECTS * MAX_LENGTH];
        objectOfColor = new int[COLORS];
        for (int which = 0; which < COLORS; which++) {
            objectOfColor[which] = NONE;
        }
    }

    public int arrayOf(int type) {
        if (!isType(type)) {
            return REFUSED;
        }
        if (!canBeComponent(type)) {
            return NO_ARRAY;
        }
        return arrayTypeFor(type);
    }

    public int component(int type) {
        return isType(type) ? componentOfType[type] : REFUSED;
    }

    public int dimensions(int type) {
        return isType(type) ? dimensionsOfType[type] : REFUSED;
    }

    public int supertype(int t, int s) {
        if (!isType(t) || !isType(s)) {
            return REFUSED;
        }
        return isSupertype(t, s) ? 1 : 0;
    }

    public int marks(int type) {
        if (!isType(type)) {
            return REFUSED;
        }
        int markSum = FIXED[rootOfType[type]].markSum;
        return isArrayType(type) ? MARK_FINAL | markSum & MARKS_OF_ACCESS : markSum;
    }

    public int kinds(int type) {
        if (!isType(type)) {
            return REFUSED;
        }
        return isArrayType(type) ? KIND_ARRAY : FIXED[type].kindSum;
    }

    public int text(int type, int which, int index) {
        if (!isType(type) || index < 0) {
            return REFUSED;
        }
        switch (which) {
            case 0:
                return isArrayType(type) ? codedCharacterOf(type, index, '.') : characterOf(FIXED[type].fullName, index);
            case 1:
                return simpleCharacterOf(type, index);
            case 2:
                return codedCharacterOf(type, index, '/');
            default:
                return REFUSED;
        }
    }

    public int make(int type, int value) {
        switch (type) {
            case TYPE_OBJECT:
            case TYPE_STRING:
            case TYPE_CIRCLE:
            case TYPE_SQUARE:
            case TYPE_TILE:
            case TYPE_POINT:
            case TYPE_HOLDER:
                return newObject(type, value);
            case TYPE_COLOR:
                return colorConstant(Math.floorMod(value, COLORS));
            default:
                return REFUSED;
        }
    }

    public int makeArray(int component, int length) {
        if (!isType(component)) {
            return REFUSED;
        }
        if (!canBeComponent(component)) {
            return NO_ARRAY;
        }
        if (length < 0) {
            return NEGATIVE;
        }
        // The room for objects is looked at before the type is asked for, so that a call in vain leaves no type behind.
        if (length > MAX_LENGTH || objectCount >= MAX_OBJECTS) {
            return FULL;
        }
        int type = arrayTypeFor(component);
        return type == FULL ? FULL : newArray(type, length);
    }

    public int classOf(int object) {
        return isObject(object) ? classOfObject[object] : REFUSED;
    }

    public int instance(int type, int object) {
        if (!isType(type) || !isObject(object)) {
            return REFUSED;
        }
        return isInstance(type, object) ? 1 : 0;
    }

    public int cast(int type, int object) {
        if (!isType(type) || !isObject(object)) {
            return REFUSED;
        }
        // No object has a base or void for its class, so these need no look of their own.
        return isInstance(type, object) ? object : BAD_CAST;
    }

    public int store(int array, int index, int object) {
        if (object != NONE && !isObject(object) || !isArrayOfObjects(array)) {
            return REFUSED;
        }
        if (!isIndex(array, index)) {
            return BAD_INDEX;
        }
        if (object != NONE && !isInstance(componentOfArray(array), object)) {
            return BAD_STORE;
        }
        int place = placeOf(array, index);
        int before = (int) elements[place];
        elements[place] = object;
        return before;
    }

    public int load(int array, int index) {
        if (!isArrayOfObjects(array)) {
            return REFUSED;
        }
        return isIndex(array, index) ? (int) elements[placeOf(array, index)] : BAD_INDEX;
    }

    public int put(int array, int index, int value) {
        if (!isArrayOfBases(array)) {
            return REFUSED;
        }
        if (!isIndex(array, index)) {
            return BAD_INDEX;
        }
        elements[placeOf(array, index)] = asBaseHasIt(componentOfArray(array), value);
        return 0;
    }

    public long get(int array, int index) {
        if (!isArrayOfBases(array) || !isIndex(array, index)) {
            return ABSENT;
        }
        return elements[placeOf(array, index)];
    }

    public int length(int object) {
        return isArray(object) ? lengthOfObject[object] : REFUSED;
    }

    public int copy(int object) {
        if (!isArray(object)) {
            return REFUSED;
        }
        int twin = newArray(classOfObject[object], lengthOfObject[object]);
        if (twin != FULL) {
            System.arraycopy(elements, placeOf(object, 0), elements, placeOf(twin, 0), lengthOfObject[object]);
        }
        return twin;
    }

    public int label(int object) {
        if (!isObject(object)) {
            return REFUSED;
        }
        int value = valueOfObject[object];
        switch (classOfObject[object]) {
            case TYPE_CIRCLE:
            case TYPE_SQUARE:
                return 100 + value;
            case TYPE_TILE:
                return 200 + value;
            case TYPE_POINT:
                return 300 + value;
            case TYPE_COLOR:
                return 400 + value;
            default:
                return REFUSED;
        }
    }

    public int count(int what) {
        switch (what) {
            case 0:
                return typeCount;
            case 1:
                return objectCount;
            default:
                return REFUSED;
        }
    }

    private boolean isType(int type) {
        return type >= 0 && type < typeCount;
    }

    private static boolean isArrayType(int type) {
        return type >= FIRST_ARRAY_TYPE;
    }

    private static boolean isBase(int type) {
        return type <= LAST_BASE;
    }

    private boolean canBeComponent(int type) {
        return type != TYPE_VOID && dimensionsOfType[type] < MAX_DIMENSIONS;
    }

    /** The number of the array type with this component, given now if there was none; or FULL. */
    private int arrayTypeFor(int component) {
        if (arrayTypeOfType[component] != NOT_NUMBERED) {
            return arrayTypeOfType[component];
        }
        if (typeCount >= MAX_TYPES) {
            return FULL;
        }
        int type = typeCount;
        typeCount++;
        componentOfType[type] = component;
        dimensionsOfType[type] = dimensionsOfType[component] + 1;
        rootOfType[type] = rootOfType[component];
        arrayTypeOfType[component] = type;
        return type;
    }

    /**
     * Taking one dimension off both types again and again leads to one of these three cases,
     * so the dimensions and the roots alone decide.
     */
    private boolean isSupertype(int t, int s) {
        int root = rootOfType[t];
        if (dimensionsOfType[t] == dimensionsOfType[s]) {
            return (FIXED[rootOfType[s]].lineage >> root & 1) == 1;
        }
        return dimensionsOfType[t] < dimensionsOfType[s] && isAboveEveryArray(root);
    }

    private static boolean isAboveEveryArray(int type) {
        return type == TYPE_OBJECT || type == TYPE_CLONEABLE || type == TYPE_SERIALIZABLE;
    }

    /** A character of a text, or REFUSED where it has none. */
    private static int characterOf(String text, int index) {
        return index >= 0 && index < text.length() ? text.charAt(index) : REFUSED;
    }

    private int codedCharacterOf(int type, int index, char separator) {
        int brackets = dimensionsOfType[type];
        return index < brackets ? '[' : FIXED[rootOfType[type]].codedCharacter(index - brackets, separator);
    }

    private int simpleCharacterOf(int type, int index) {
        FixedType root = FIXED[rootOfType[type]];
        int behind = index - root.simpleLength();
        if (behind < 0) {
            return characterOf(root.fullName, root.simpleStart + index);
        }
        if (behind >= 2 * dimensionsOfType[type]) {
            return REFUSED;
        }
        return behind % 2 == 0 ? '[' : ']';
    }

    private boolean isObject(int object) {
        return object >= 0 && object < objectCount;
    }

    private boolean isArray(int object) {
        return isObject(object) && isArrayType(classOfObject[object]);
    }

    private boolean isArrayOfBases(int object) {
        return isArray(object) && isBase(componentOfArray(object));
    }

    private boolean isArrayOfObjects(int object) {
        return isArray(object) && !isBase(componentOfArray(object));
    }

    private int componentOfArray(int array) {
        return componentOfType[classOfObject[array]];
    }

    private boolean isInstance(int type, int object) {
        return isSupertype(type, classOfObject[object]);
    }

    private boolean isIndex(int array, int index) {
        return index >= 0 && index < lengthOfObject[array];
    }

    private static int placeOf(int array, int index) {
        return array * MAX_LENGTH + index;
    }

    /** The number of a new object, or FULL. */
    private int newObject(int type, int value) {
        if (objectCount >= MAX_OBJECTS) {
            return FULL;
        }
        int object = objectCount;
        objectCount++;
        classOfObject[object] = type;
        valueOfObject[object] = value;
        return object;
    }

    private int newArray(int type, int length) {
        int array = newObject(type, 0);
        if (array == FULL) {
            return FULL;
        }
        lengthOfObject[array] = length;
        long first = isBase(componentOfType[type]) ? 0 : NONE;
        for (int index = 0; index < length; index++) {
            elements[placeOf(array, index)] = first;
        }
        return array;
    }

    private int colorConstant(int which) {
        if (objectOfColor[which] != NONE) {
            return objectOfColor[which];
        }
        int object = newObject(TYPE_COLOR, which);
        if (object != FULL) {
            objectOfColor[which] = object;
        }
        return object;
    }

    private static long asBaseHasIt(int base, int value) {
        switch (base) {
            case TYPE_BOOLEAN:
                return value != 0 ? 1 : 0;
            case TYPE_BYTE:
                return (byte) value;
            case TYPE_CHAR:
                return (char) value;
            case TYPE_SHORT:
                return (short) value;
            case TYPE_FLOAT:
                return (long) (float) value;
            default:
                // An int, a long and a double hold every int as it is.
                return value;
        }
    }
}
