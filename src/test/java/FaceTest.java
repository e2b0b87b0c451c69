import java.lang.reflect.Constructor;
import java.lang.reflect.Field;
import java.lang.reflect.Method;
import java.lang.reflect.Modifier;
import java.util.Arrays;
import java.util.TreeSet;

/** The public face is that of the document and nothing more; promise 1. */
public final class FaceTest {
    private static final String[] FACE = {
        "int entry(int, int, int, int, int)", "int marks(int, int, int)", "int root(int, int)", "int current(int)",
        "int access(int, int)", "int would(int, int)", "int steps(int, int)", "int begin(int, int, int, boolean)",
        "int turn(int)", "int walker(int, int)", "int fence(int, int)", "int fenceSpace(int)", "int fenceAll()",
        "int way(int, int, int)", "int of(int, int, int)", "int cached(int, int)", "int upper(int, int)",
        "boolean permitted(int, int, int)", "int many(int, int)", "int reverse(int, int, int)",
        "int through(int, int, int)", "int space(int, int)", "int count(int)"};

    public static void main(String[] args) {
        Check check = new Check();
        theFace(check);
        aNewObject(check);
        theExampleOfTheReadme(check);
        check.end();
    }

    private static void theFace(Check check) {
        TreeSet<String> faceNames = new TreeSet<>();
        TreeSet<String> methods = new TreeSet<>();
        for (Method m : WalkHouse.class.getDeclaredMethods()) {
            if (!Modifier.isPrivate(m.getModifiers())) {
                check.yes(m + " is public", Modifier.isPublic(m.getModifiers()));
                String types = Arrays.toString(m.getParameterTypes());
                methods.add(m.getReturnType() + " " + m.getName() + "(" + types.substring(1, types.length() - 1) + ")");
                faceNames.add(m.getName());
            }
        }
        check.yes("the methods are those of the document", methods.equals(new TreeSet<>(Arrays.asList(FACE))));
        for (Method m : WalkHouse.class.getDeclaredMethods()) {
            check.no(m + " bears a public name", Modifier.isPrivate(m.getModifiers()) && faceNames.contains(m.getName()));
        }
        for (Field f : WalkHouse.class.getDeclaredFields()) {
            check.yes(f + " is private", Modifier.isPrivate(f.getModifiers()) || f.getName().equals("NONE"));
            check.yes(f + " is final if static", !Modifier.isStatic(f.getModifiers()) || Modifier.isFinal(f.getModifiers()));
        }
        Constructor<?>[] made = WalkHouse.class.getDeclaredConstructors();
        check.is("constructors", 1, made.length);
        check.is("their parameters", 0, made[0].getParameterCount());
        check.yes("it is public", Modifier.isPublic(made[0].getModifiers()));
        check.yes("the class is public and final", (WalkHouse.class.getModifiers() & (Modifier.PUBLIC | Modifier.FINAL))
                == (Modifier.PUBLIC | Modifier.FINAL));
        check.is("NONE", -1, WalkHouse.NONE);
    }

    private static void aNewObject(Check check) {
        WalkHouse house = new WalkHouse();
        for (int what = 0; what <= 13; what++) {
            check.is("count(" + what + ")", what == 0 ? -1 : 0, house.count(what));
        }
        for (int table = 0; table < 12; table++) {
            for (int i = 0; i < 8; i++) {
                check.is("of(" + table + ", " + i + ", 0)", 0, house.of(table, i, 0));
            }
        }
        for (int space = 0; space < 6; space++) {
            check.is("its root", -1, house.space(space, 0));
            check.is("its tag", -1, house.space(space, 1));
            check.is("whether it is current", 0, house.space(space, 2));
            check.is("its way", -3, house.way(space, 511, 0));
            check.is("permitted there", 0, house.many(space, 0));
        }
        for (int walker = 0; walker < 4; walker++) {
            check.is("walker(" + walker + ", 0)", 0, house.walker(walker, 0));
        }
        for (int place = 0; place < 6; place++) {
            check.cachedThrows(house, place, 0);
            check.upperThrows(house, place, 0);
        }
    }

    private static void theExampleOfTheReadme(Check check) {
        Run.of(check, "README.md, Use", "root(0, 0)", "entry(0, 0, 1, 1, 7)", "entry(1, 0, 2, 300, 3)", "current(0) = 0", "access(5, 1) = 305",
                "count(7) = 4");
    }
}
