import java.lang.reflect.Constructor;
import java.lang.reflect.Field;
import java.lang.reflect.Method;
import java.lang.reflect.Modifier;
import java.util.Arrays;
import java.util.Set;
import java.util.TreeSet;

/** That the class has the document's face, and nothing besides that others could see. */
public final class FaceTest {
    private static final String[] FACE = {
        "StockingLine()", "int NONE", "int UNKNOWN", "int OUTSIDE", "int STATE", "int FULL",
        "int letter(int)", "int blank()", "int fault()", "int line()", "int king(int,int)", "int as(int,int)",
        "int stocking(int,int)", "int wrong(int,int)", "int peg(int)", "int wash()", "int starch(int,int)",
        "int darn(int)", "int wind(int)", "int pin(int,int)", "int drop(int)", "int throne(int)", "int match(int)",
        "int chance(int,int)", "int dog(int)", "int coup(int)", "int fold()", "int lies(int,int)", "int sweep()",
        "int winds(int)", "int tryOn(int,int,boolean)", "int forget()", "int years(int,int,int)", "int image()",
        "int restore()", "int count(int)", "long digest()"};

    public static void main(String[] args) {
        Set<String> due = new TreeSet<>(Arrays.asList(FACE));
        Set<String> seen = new TreeSet<>();
        Set<String> hidden = new TreeSet<>();
        boolean fine = Modifier.isFinal(StockingLine.class.getModifiers());
        for (Constructor<?> c : StockingLine.class.getDeclaredConstructors()) {
            seen.add(c.getName() + types(c.getParameterTypes()));
        }
        for (Method m : StockingLine.class.getDeclaredMethods()) {
            if (Modifier.isPrivate(m.getModifiers())) {
                hidden.add(m.getName());
            } else {
                seen.add(m.getReturnType() + " " + m.getName() + types(m.getParameterTypes()));
                fine &= Modifier.isPublic(m.getModifiers());
            }
        }
        for (Field f : StockingLine.class.getDeclaredFields()) {
            boolean constant = Modifier.isFinal(f.getModifiers());
            fine &= constant || !Modifier.isStatic(f.getModifiers());
            if (!Modifier.isPrivate(f.getModifiers())) {
                seen.add(f.getType() + " " + f.getName());
                fine &= constant && Modifier.isPublic(f.getModifiers());
            }
        }
        for (Method m : StockingLine.class.getMethods()) {
            fine &= !hidden.contains(m.getName());
        }
        fine &= seen.equals(due);
        System.out.println(fine ? "the face is the document's" : "seen: " + seen + "\ndue:  " + due);
        if (!fine) {
            System.exit(1);
        }
    }

    private static String types(Class<?>[] types) {
        StringBuilder out = new StringBuilder("(");
        for (Class<?> type : types) {
            out.append(out.length() == 1 ? "" : ",").append(type.getName());
        }
        return out.append(")").toString();
    }
}
