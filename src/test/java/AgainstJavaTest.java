import java.io.Serializable;
import java.lang.reflect.Array;
import java.util.ArrayList;
import java.util.List;

/**
 * All promises at once: long mixed runs of calls, each answer held against Java's own classes and objects.
 * The runs come from a fixed row of numbers, so they are the same each time; none is longer than 512 calls.
 */
public final class AgainstJavaTest {
    private interface Shape { }

    interface Named {
        int tag();
    }

    private abstract static class Base implements Named { }

    private static final class Circle extends Base implements Shape {
        private final int value;

        private Circle(int value) {
            this.value = value;
        }

        @Override
        public int tag() {
            return 100 + value;
        }
    }

    private static class Square extends Base {
        final int value;

        private Square(int value) {
            this.value = value;
        }

        @Override
        public int tag() {
            return 100 + value;
        }
    }

    static final class Tile extends Square implements Cloneable {
        private Tile(int value) {
            super(value);
        }

        @Override
        public int tag() {
            return 200 + value;
        }
    }

    private enum Color implements Named {
        RED, GREEN, BLUE;

        @Override
        public int tag() {
            return 400 + ordinal();
        }
    }

    private record Point(int value) implements Named {
        @Override
        public int tag() {
            return 300 + value;
        }
    }

    static class Holder { }

    /** What Java itself says, with the numbers and limits of the document. */
    private static final class Oracle {
        private final List<Class<?>> types = new ArrayList<>(List.of(
            boolean.class, byte.class, char.class, short.class, int.class, long.class, float.class, double.class,
            void.class, Object.class, Cloneable.class, Serializable.class, String.class, Shape.class, Named.class,
            Base.class, Circle.class, Square.class, Tile.class, Color.class, Point.class, Holder.class));
        private final List<Object> objects = new ArrayList<>();

        private boolean isType(int type) {
            return type >= 0 && type < types.size();
        }

        private boolean isObject(int object) {
            return object >= 0 && object < objects.size();
        }

        private int numberOf(Object object) {
            for (int i = 0; i < objects.size(); i++) {
                if (objects.get(i) == object) {
                    return i;
                }
            }
            return -7;
        }

        private int keep(Object object) {
            if (numberOf(object) >= 0) {
                return numberOf(object);
            }
            if (objects.size() == 80) {
                return -8;
            }
            objects.add(object);
            return objects.size() - 1;
        }

        private int number(Class<?> type) {
            if (!types.contains(type)) {
                if (types.size() == 300) {
                    return -8;
                }
                types.add(type);
            }
            return types.indexOf(type);
        }

        int arrayOf(int type) {
            if (!isType(type)) {
                return -1;
            }
            try {
                return number(Array.newInstance(types.get(type), 0).getClass());
            } catch (IllegalArgumentException e) {
                return -2;
            }
        }

        int component(int type) {
            if (!isType(type)) {
                return -1;
            }
            Class<?> component = types.get(type).getComponentType();
            return component == null ? -7 : types.indexOf(component);
        }

        int dimensions(int type) {
            return isType(type) ? types.get(type).getName().lastIndexOf('[') + 1 : -1;
        }

        int supertype(int t, int s) {
            if (!isType(t) || !isType(s)) {
                return -1;
            }
            // The document lets Object stand with the interfaces, as Java's own isAssignableFrom does.
            return types.get(t).isAssignableFrom(types.get(s)) ? 1 : 0;
        }

        int marks(int type) {
            if (!isType(type)) {
                return -1;
            }
            Class<?> c = types.get(type);
            // Java has more marks than the document (one for enums), and marks arrays ABSTRACT, which the document does not.
            int told = c.getModifiers() & (1 | 2 | 4 | 8 | 16 | 512 | 1024);
            return c.isArray() ? told & ~1024 : told;
        }

        int kinds(int type) {
            if (!isType(type)) {
                return -1;
            }
            Class<?> c = types.get(type);
            return (c.isPrimitive() ? 1 : 0) + (c.isInterface() ? 2 : 0) + (c.isArray() ? 4 : 0)
                + (c.isEnum() ? 8 : 0) + (c.isRecord() ? 16 : 0) + (c.isMemberClass() ? 32 : 0);
        }

        int text(int type, int which, int index) {
            if (!isType(type) || which < 0 || which > 2) {
                return -1;
            }
            Class<?> c = types.get(type);
            String text = which == 0 ? c.getName() : which == 1 ? c.getSimpleName() : c.descriptorString();
            text = text.replace("AgainstJavaTest", "ClassObjectMirror");
            return index >= 0 && index < text.length() ? text.charAt(index) : -1;
        }

        int make(int type, int value) {
            switch (type) {
                case 9: return keep(new Object());
                case 12: return keep(new String("a text"));
                case 16: return keep(new Circle(value));
                case 17: return keep(new Square(value));
                case 18: return keep(new Tile(value));
                case 19: return keep(Color.values()[Math.floorMod(value, 3)]);
                case 20: return keep(new Point(value));
                case 21: return keep(new Holder());
                default: return -1;
            }
        }

        int makeArray(int component, int length) {
            if (!isType(component)) {
                return -1;
            }
            try {
                Array.newInstance(types.get(component), 0);
                Object array = Array.newInstance(types.get(component), Math.min(length, 8));
                if (length > 8 || objects.size() == 80 || number(array.getClass()) == -8) {
                    return -8;
                }
                return keep(array);
            } catch (NegativeArraySizeException e) {
                return -3;
            } catch (IllegalArgumentException e) {
                return -2;
            }
        }

        int classOf(int object) {
            return isObject(object) ? types.indexOf(objects.get(object).getClass()) : -1;
        }

        int instance(int type, int object) {
            if (!isType(type) || !isObject(object)) {
                return -1;
            }
            return types.get(type).isInstance(objects.get(object)) ? 1 : 0;
        }

        int cast(int type, int object) {
            if (!isType(type) || !isObject(object)) {
                return -1;
            }
            try {
                return numberOf(types.get(type).cast(objects.get(object)));
            } catch (ClassCastException e) {
                return -4;
            }
        }

        int store(int array, int index, int object) {
            if (object != -7 && !isObject(object) || !isObject(array)
                || !(objects.get(array) instanceof Object[] row)) {
                return -1;
            }
            try {
                Object before = row[index];
                row[index] = object == -7 ? null : objects.get(object);
                return numberOf(before);
            } catch (ArrayIndexOutOfBoundsException e) {
                return -5;
            } catch (ArrayStoreException e) {
                return -6;
            }
        }

        int load(int array, int index) {
            if (!isObject(array) || !(objects.get(array) instanceof Object[] row)) {
                return -1;
            }
            return index >= 0 && index < row.length ? numberOf(row[index]) : -5;
        }

        private boolean isRowOfBases(int array) {
            return isObject(array) && objects.get(array).getClass().isArray()
                && objects.get(array).getClass().getComponentType().isPrimitive();
        }

        int put(int array, int index, int value) {
            if (!isRowOfBases(array)) {
                return -1;
            }
            Object row = objects.get(array);
            try {
                switch (types.indexOf(row.getClass().getComponentType())) {
                    case 0: Array.setBoolean(row, index, value != 0); break;
                    case 1: Array.setByte(row, index, (byte) value); break;
                    case 2: Array.setChar(row, index, (char) value); break;
                    case 3: Array.setShort(row, index, (short) value); break;
                    default: Array.setInt(row, index, value); break;
                }
                return 0;
            } catch (ArrayIndexOutOfBoundsException e) {
                return -5;
            }
        }

        long get(int array, int index) {
            if (!isRowOfBases(array) || index < 0 || index >= length(array)) {
                return 10000000000L;
            }
            Object row = objects.get(array);
            if (row instanceof boolean[] flags) {
                return flags[index] ? 1 : 0;
            }
            return row instanceof long[] longs ? longs[index] : (long) Array.getDouble(row, index);
        }

        int length(int object) {
            return isObject(object) && objects.get(object).getClass().isArray()
                ? Array.getLength(objects.get(object)) : -1;
        }

        int copy(int object) {
            if (length(object) < 0) {
                return -1;
            }
            Object row = objects.get(object);
            Object twin = Array.newInstance(row.getClass().getComponentType(), Array.getLength(row));
            System.arraycopy(row, 0, twin, 0, Array.getLength(row));
            return keep(twin);
        }

        int label(int object) {
            return isObject(object) && objects.get(object) instanceof Named named ? named.tag() : -1;
        }

        int count(int what) {
            return what == 0 ? types.size() : what == 1 ? objects.size() : -1;
        }
    }

    private static final Checks CHECKS = new Checks();
    private static final int[] EDGES = {
        -1, -2, -7, -8, 3, 8, 9, 22, 80, 255, 300, Integer.MIN_VALUE, Integer.MAX_VALUE};
    private static long seed = 20261115;

    private static int below(int bound) {
        seed = seed * 6364136223846793005L + 1442695040888963407L;
        return (int) ((seed >>> 33) % bound);
    }

    private static int some(int bound) {
        return below(24) == 0 ? EDGES[below(EDGES.length)] : below(bound);
    }

    private static int someValue() {
        return below(2) == 0 ? below(600) - 300 : (int) (seed >>> 20);
    }

    public static void main(String[] args) {
        for (int run = 0; run < 600; run++) {
            ClassObjectMirror x = new ClassObjectMirror();
            Oracle o = new Oracle();
            int typeRange = run % 3 == 0 ? 310 : 30;
            if (run % 5 == 0) {
                grow(x, o, run % 10 == 0 ? 255 : 240);
                typeRange = 310;
            }
            for (int call = 0; call < 250; call++) {
                compare(x, o, typeRange, run);
            }
        }
        CHECKS.end();
    }

    /** Makes an array type of many dimensions, so that the limits of types come near. */
    private static void grow(ClassObjectMirror x, Oracle o, int depth) {
        int type = below(8);
        for (int i = 0; i < depth; i++) {
            int above = x.arrayOf(type);
            CHECKS.due("arrayOf(" + type + ")", above, o.arrayOf(type));
            type = above;
        }
    }

    private static void compare(ClassObjectMirror x, Oracle o, int typeRange, int run) {
        int type = some(typeRange);
        int other = below(3) == 0 ? some(typeRange) : some(22);
        int object = some(Math.max(o.count(1), 1));
        int second = below(8) == 0 ? -7 : some(Math.max(o.count(1), 1));
        int index = some(9);
        int value = someValue();
        String told = "run " + run + ": " + type + " " + other + " " + object + " " + second + " " + index + " " + value;
        switch (below(23)) {
            case 0: CHECKS.due("arrayOf " + told, x.arrayOf(type), o.arrayOf(type)); break;
            case 1: CHECKS.due("component " + told, x.component(type), o.component(type)); break;
            case 2: CHECKS.due("dimensions " + told, x.dimensions(type), o.dimensions(type)); break;
            case 3: CHECKS.due("supertype " + told, x.supertype(type, other), o.supertype(type, other)); break;
            case 4: CHECKS.due("supertype' " + told, x.supertype(other, type), o.supertype(other, type)); break;
            case 5: CHECKS.due("marks " + told, x.marks(type), o.marks(type)); break;
            case 6: CHECKS.due("kinds " + told, x.kinds(type), o.kinds(type)); break;
            case 7: compareText(x, o, type, told); break;
            case 8: case 9: CHECKS.due("make " + told, x.make(other, value), o.make(other, value)); break;
            case 10: CHECKS.due("makeArray " + told, x.makeArray(other, index), o.makeArray(other, index)); break;
            case 11: CHECKS.due("makeArray' " + told, x.makeArray(type, index), o.makeArray(type, index)); break;
            case 12: CHECKS.due("classOf " + told, x.classOf(object), o.classOf(object)); break;
            case 13: CHECKS.due("instance " + told, x.instance(other, object), o.instance(other, object)); break;
            case 14: CHECKS.due("cast " + told, x.cast(type, object), o.cast(type, object)); break;
            case 15: CHECKS.due("store " + told, x.store(object, index, second), o.store(object, index, second)); break;
            case 16: CHECKS.due("load " + told, x.load(object, index), o.load(object, index)); break;
            case 17: CHECKS.due("put " + told, x.put(object, index, value), o.put(object, index, value)); break;
            case 18: CHECKS.due("get " + told, x.get(object, index), o.get(object, index)); break;
            case 19: CHECKS.due("length " + told, x.length(object), o.length(object)); break;
            case 20: CHECKS.due("copy " + told, x.copy(object), o.copy(object)); break;
            case 21: CHECKS.due("label " + told, x.label(object), o.label(object)); break;
            default: compareCount(x, o, told); break;
        }
    }

    private static void compareCount(ClassObjectMirror x, Oracle o, String told) {
        int what = some(3);
        CHECKS.due("count " + what + " " + told, x.count(what), o.count(what));
    }

    private static void compareText(ClassObjectMirror x, Oracle o, int type, String told) {
        int which = some(3);
        int index = below(2) == 0 ? some(30) : some(540);
        CHECKS.due("text " + which + " at " + index + " " + told, x.text(type, which, index), o.text(type, which, index));
    }
}
