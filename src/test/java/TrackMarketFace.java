import java.lang.reflect.Constructor;
import java.lang.reflect.Field;
import java.lang.reflect.Method;
import java.lang.reflect.Modifier;
import java.util.Set;
import java.util.TreeSet;

/** The public face is the document's, and no member but a private one stands beside it. */
public final class TrackMarketFace {
    private static int right = 0;
    private static int wrong = 0;

    public static void main(String[] args) throws ReflectiveOperationException {
        due("class", TrackMarket.class.toGenericString(), "public final class TrackMarket");
        due("class above it", TrackMarket.class.getSuperclass(), Object.class);
        due("interfaces", TrackMarket.class.getInterfaces().length, 0);
        due("nested classes", TrackMarket.class.getDeclaredClasses().length, 0);
        due("methods", visibleMethods(), new TreeSet<>(Set.of(
            "public int bring(int,int,int)", "public boolean take(int)", "public boolean revalue(int,int)",
            "public boolean setTracks(int)", "public int tracks()", "public int jobs()", "public int chosen()",
            "public int total()", "public boolean fits(int)", "public int tracksFor(int)", "public int price(int)",
            "public int totalWith(int,int)", "public int gain()", "public int loss()", "public int busy(int)")));
        due("constructors", constructors(), new TreeSet<>(Set.of("public TrackMarket(int)")));
        due("constants", visibleFields(), new TreeSet<>(Set.of(
            "public static final int BAD = -1", "public static final int FULL = -2",
            "public static final int NONE = -1")));
        due("static fields that are no constants", looseStatics(), new TreeSet<>());
        System.out.println(right + " passed, " + wrong + " failed");
        if (wrong != 0) {
            System.exit(1);
        }
    }

    private static void due(String what, Object got, Object want) {
        if (got.equals(want)) {
            right++;
        } else {
            wrong++;
            System.out.println(what + ": got " + got + ", due is " + want);
        }
    }

    private static Set<String> visibleMethods() {
        Set<String> found = new TreeSet<>();
        for (Method m : TrackMarket.class.getDeclaredMethods()) {
            if (!Modifier.isPrivate(m.getModifiers())) {
                found.add(m.toString().replace("TrackMarket.", ""));
            }
        }
        return found;
    }

    private static Set<String> constructors() {
        Set<String> found = new TreeSet<>();
        for (Constructor<?> c : TrackMarket.class.getDeclaredConstructors()) {
            found.add(c.toString());
        }
        return found;
    }

    private static Set<String> visibleFields() throws ReflectiveOperationException {
        Set<String> found = new TreeSet<>();
        for (Field f : TrackMarket.class.getDeclaredFields()) {
            if (!Modifier.isPrivate(f.getModifiers())) {
                found.add(f.toString().replace("TrackMarket.", "") + " = " + f.get(null));
            }
        }
        return found;
    }

    private static Set<String> looseStatics() {
        Set<String> found = new TreeSet<>();
        for (Field f : TrackMarket.class.getDeclaredFields()) {
            boolean number = f.getType() == int.class || f.getType() == long.class;
            if (Modifier.isStatic(f.getModifiers()) && !(number && Modifier.isFinal(f.getModifiers()))) {
                found.add(f.toString());
            }
        }
        return found;
    }
}
