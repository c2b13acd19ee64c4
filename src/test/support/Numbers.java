/** The numbers that the document gives to answers and types, written out so that the program can't move them. */
interface Numbers {
    int REFUSED = -1;
    int NO_ARRAY = -2;
    int NEGATIVE = -3;
    int BAD_CAST = -4;
    int BAD_INDEX = -5;
    int BAD_STORE = -6;
    int NONE = -7;
    int FULL = -8;
    long ABSENT = 10000000000L;

    int BOOLEAN = 0;
    int BYTE = 1;
    int CHAR = 2;
    int SHORT = 3;
    int INT = 4;
    int LONG = 5;
    int FLOAT = 6;
    int DOUBLE = 7;
    int VOID = 8;
    int OBJECT = 9;
    int CLONEABLE = 10;
    int SERIALIZABLE = 11;
    int STRING = 12;
    int SHAPE = 13;
    int NAMED = 14;
    int BASE = 15;
    int CIRCLE = 16;
    int SQUARE = 17;
    int TILE = 18;
    int COLOR = 19;
    int POINT = 20;
    int HOLDER = 21;

    int LEAST = Integer.MIN_VALUE;
    int GREATEST = Integer.MAX_VALUE;
}
