import java.lang.reflect.Constructor;
import java.lang.reflect.Field;
import java.lang.reflect.Method;
import java.lang.reflect.Modifier;
import java.util.Set;
import java.util.TreeSet;

/** That the class has the document's face, and nothing besides that others could see. */
public final class FaceTest {
    private static final String CONSTANT = "public static final int ";
    private static final String[] CONSTANTS = {
        "NONE = -1", "UNKNOWN = -101", "OUTSIDE = -102", "STATE = -103", "FULL = -104"};
    private static final String[] CALLS = {
        "StockingLine()",
        "int letter(int)", "int blank()", "int fault()", "int line()", "int king(int,int)", "int as(int,int)",
        "int stocking(int,int)", "int wrong(int,int)", "int peg(int)", "int wash()", "int starch(int,int)",
        "int darn(int)", "int wind(int)", "int pin(int,int)", "int drop(int)", "int throne(int)", "int match(int)",
        "int chance(int,int)", "int dog(int)", "int coup(int)", "int fold()", "int lies(int,int)", "int sweep()",
        "int winds(int)", "int tryOn(int,int,boolean)", "int forget()", "int years(int,int,int)", "int image()",
        "int restore()", "int count(int)", "long digest()"};
    private static int wrong = 0;

    public static void main(String[] args) throws IllegalAccessException {
        expect(Modifier.toString(StockingLine.class.getModifiers()).equals("public final"), "the class is public final");
        expect(StockingLine.class.getPackageName().isEmpty(), "the class has no package");
        compare(seenConstants(), all(CONSTANT, CONSTANTS));
        compare(seenCalls(), all("public ", CALLS));
        noHiddenNamesake();
        innerClassesAreHidden();
        noStaticState();
        System.out.println(wrong == 0 ? "the face is the document's" : wrong + " things are not so");
        if (wrong != 0) {
            System.exit(1);
        }
    }

    private static Set<String> all(String before, String[] told) {
        Set<String> due = new TreeSet<>();
        for (String one : told) {
            due.add(before + one);
        }
        return due;
    }

    private static Set<String> seenConstants() throws IllegalAccessException {
        Set<String> seen = new TreeSet<>();
        for (Field f : StockingLine.class.getDeclaredFields()) {
            if (!Modifier.isPrivate(f.getModifiers())) {
                boolean fixed = Modifier.isStatic(f.getModifiers());
                seen.add(said(f.getModifiers()) + f.getType() + " " + f.getName() + (fixed ? " = " + f.get(null) : ""));
            }
        }
        return seen;
    }

    private static Set<String> seenCalls() {
        Set<String> seen = new TreeSet<>();
        for (Constructor<?> c : StockingLine.class.getDeclaredConstructors()) {
            seen.add(said(c.getModifiers()) + c.getName() + types(c.getParameterTypes()));
        }
        for (Method m : StockingLine.class.getDeclaredMethods()) {
            if (!Modifier.isPrivate(m.getModifiers())) {
                seen.add(said(m.getModifiers()) + m.getReturnType() + " " + m.getName() + types(m.getParameterTypes()));
            }
        }
        return seen;
    }

    private static void noHiddenNamesake() {
        Set<String> shown = new TreeSet<>();
        for (Method m : StockingLine.class.getMethods()) {
            shown.add(m.getName());
        }
        for (Method m : StockingLine.class.getDeclaredMethods()) {
            boolean hidden = Modifier.isPrivate(m.getModifiers());
            expect(!hidden || !shown.contains(m.getName()), "no private method is called " + m.getName());
        }
    }

    private static void innerClassesAreHidden() {
        for (Class<?> inner : StockingLine.class.getDeclaredClasses()) {
            int is = inner.getModifiers();
            expect(Modifier.isStatic(is) && !Modifier.isPublic(is) && !Modifier.isProtected(is),
                inner.getSimpleName() + " is static, and private or package-visible");
        }
    }

    private static void noStaticState() {
        for (Field f : StockingLine.class.getDeclaredFields()) {
            boolean fixed = Modifier.isFinal(f.getModifiers()) || !Modifier.isStatic(f.getModifiers());
            expect(fixed, f.getName() + " is final, as it is static");
        }
    }

    private static String said(int modifiers) {
        return modifiers == 0 ? "" : Modifier.toString(modifiers) + " ";
    }

    private static String types(Class<?>[] types) {
        StringBuilder out = new StringBuilder("(");
        for (Class<?> type : types) {
            out.append(out.length() == 1 ? "" : ",").append(type.getName());
        }
        return out.append(")").toString();
    }

    private static void compare(Set<String> seen, Set<String> due) {
        Set<String> lacking = new TreeSet<>(due);
        lacking.removeAll(seen);
        Set<String> besides = new TreeSet<>(seen);
        besides.removeAll(due);
        expect(lacking.isEmpty() && besides.isEmpty(), "lacking: " + lacking + ", besides: " + besides);
    }

    private static void expect(boolean so, String words) {
        if (!so) {
            wrong++;
            System.out.println("not so: " + words);
        }
    }
}
