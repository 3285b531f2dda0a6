import java.lang.reflect.Constructor;
import java.lang.reflect.Field;
import java.lang.reflect.Method;
import java.lang.reflect.Modifier;
import java.util.TreeSet;

// The class has the document's face and nothing more that can be seen from outside.
public final class FaceTest {
    public static void main(String[] args) {
        TreeSet<String> wanted = new TreeSet<>();
        wanted.add("constant BAD_ARG = -1");
        wanted.add("constant FULL = -2");
        wanted.add("constant NONE = -4");
        wanted.add("BellRows(int)");
        String[] questions = {"drop", "back", "turn", "last", "isTrue", "different", "falsePairs",
            "home", "choices"};
        for (String name : questions) {
            wanted.add("int " + name + "()");
        }
        for (String name : new String[] {"change", "lead", "row", "falseAlone", "order", "leads"}) {
            wanted.add("int " + name + "(int)");
        }
        for (String name : new String[] {"call", "place"}) {
            wanted.add("int " + name + "(int, int)");
        }
        TreeSet<String> found = face();
        boolean plain = Modifier.isPublic(BellRows.class.getModifiers())
            && Modifier.isFinal(BellRows.class.getModifiers());
        if (!found.equals(wanted) || !plain) {
            System.out.println("the face is " + found + ", due is " + wanted + ", public and final");
            System.exit(1);
        }
        System.out.println("the face is as due");
    }

    private static TreeSet<String> face() {
        TreeSet<String> found = new TreeSet<>();
        for (Field field : BellRows.class.getDeclaredFields()) {
            if (!Modifier.isPrivate(field.getModifiers())) {
                found.add(constant(field));
            }
        }
        for (Constructor<?> one : BellRows.class.getDeclaredConstructors()) {
            found.add("BellRows" + types(one.getParameterTypes()));
        }
        for (Method one : BellRows.class.getDeclaredMethods()) {
            if (!Modifier.isPrivate(one.getModifiers())) {
                String shown = Modifier.toString(one.getModifiers()).replace("public", "").trim();
                found.add(shown + one.getReturnType() + " " + one.getName() + types(one.getParameterTypes()));
            }
        }
        return found;
    }

    private static String constant(Field field) {
        int kind = field.getModifiers();
        boolean fits = Modifier.isPublic(kind) && Modifier.isStatic(kind) && Modifier.isFinal(kind)
            && field.getType() == int.class;
        if (!fits) {
            return "field " + field;
        }
        try {
            return "constant " + field.getName() + " = " + field.getInt(null);
        } catch (IllegalAccessException e) {
            return "hidden " + field;
        }
    }

    private static String types(Class<?>[] list) {
        StringBuilder text = new StringBuilder("(");
        for (int i = 0; i < list.length; i++) {
            text.append(i == 0 ? "" : ", ").append(list[i].getName());
        }
        return text.append(")").toString();
    }
}
