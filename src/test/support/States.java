/** States near the document's limits, from which tests start, and a way to see whether two states are the same. */
final class States implements Numbers {
    /** How many of the first and of the last array types are looked at: all 300 would take too many calls. */
    private static final int TYPES_SEEN = 5;

    private States() { }

    /**
     * Types: 22 Named[], 23 int[].
     * Objects: 0 a Named[3] with object 2 at 1, 1 an int[2] with 5 and -6, 2 a Circle 7, 3 the Color 1, 4 a String.
     */
    static ClassObjectMirror few() {
        ClassObjectMirror x = new ClassObjectMirror();
        x.makeArray(NAMED, 3);
        x.makeArray(INT, 2);
        x.make(CIRCLE, 7);
        x.make(COLOR, 1);
        x.make(STRING, 0);
        x.store(0, 1, 2);
        x.put(1, 0, 5);
        x.put(1, 1, -6);
        return x;
    }

    /** Types: 22 .. 276, arrays of this one with 1 .. 255 dimensions. */
    static ClassObjectMirror deep(int type) {
        ClassObjectMirror x = new ClassObjectMirror();
        grow(x, type, 255);
        return x;
    }

    /** 300 types: 22 .. 276 are arrays of int with 1 .. 255 dimensions, 277 .. 299 arrays of Object with 1 .. 23. */
    static ClassObjectMirror fullOfTypes() {
        ClassObjectMirror x = deep(INT);
        grow(x, OBJECT, 23);
        return x;
    }

    private static void grow(ClassObjectMirror x, int type, int dimensions) {
        int array = type;
        for (int i = 0; i < dimensions; i++) {
            array = x.arrayOf(array);
        }
    }

    /** 80 objects: 0 an int[2] with 5 at 0, 1 an Object[1] with itself, 2 the Color 1, 3 .. 79 Holders. Types: 22, 23. */
    static ClassObjectMirror fullOfObjects() {
        ClassObjectMirror x = new ClassObjectMirror();
        x.makeArray(INT, 2);
        x.makeArray(OBJECT, 1);
        x.make(COLOR, 1);
        x.put(0, 0, 5);
        x.store(1, 0, 1);
        for (int i = 3; i < 80; i++) {
            x.make(HOLDER, 0);
        }
        return x;
    }

    /**
     * The answers of a run of calls that looks at all there is, and then asks for more, so that it also shows
     * what a state has room for and which numbers come next. It changes the state.
     */
    static String seen(ClassObjectMirror x) {
        StringBuilder answers = new StringBuilder();
        int types = x.count(0);
        int objects = x.count(1);
        answers.append(types).append(' ').append(objects);
        for (int type = 22; type < types; type++) {
            if (type < 22 + TYPES_SEEN || type >= types - TYPES_SEEN) {
                answers.append(" / ").append(x.component(type)).append(' ').append(x.dimensions(type));
            }
        }
        for (int object = 0; object < objects; object++) {
            seeObject(x, object, answers);
        }
        answers.append(" more");
        for (int type = 0; type < 22; type++) {
            answers.append(' ').append(x.arrayOf(type)).append(' ').append(x.make(type, 1));
        }
        for (int value = 0; value < 3; value++) {
            answers.append(' ').append(x.make(COLOR, value));
        }
        answers.append(' ').append(x.makeArray(INT, 1)).append(' ').append(x.makeArray(HOLDER, 1));
        return answers.append(' ').append(x.count(0)).append(' ').append(x.count(1)).toString();
    }

    private static void seeObject(ClassObjectMirror x, int object, StringBuilder answers) {
        int length = x.length(object);
        answers.append(" | ").append(x.classOf(object)).append(' ').append(x.label(object)).append(' ').append(length);
        for (int index = 0; index < length; index++) {
            answers.append(' ').append(x.load(object, index)).append(' ').append(x.get(object, index));
        }
    }
}
