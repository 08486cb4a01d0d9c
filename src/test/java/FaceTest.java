import java.lang.reflect.Constructor;
import java.lang.reflect.Field;
import java.lang.reflect.Member;
import java.lang.reflect.Method;
import java.lang.reflect.Modifier;
import java.util.Set;
import java.util.TreeSet;

/** The class shows the members of the document's face and no other, and its static fields are constants. */
public final class FaceTest {
    private static final Set<String> FACE = Set.of(
        "public static final int ColourKinds.BAD_ARG",
        "public static final int ColourKinds.FULL",
        "public static final int ColourKinds.NONE",
        "public ColourKinds()",
        "public int ColourKinds.add(int)",
        "public int ColourKinds.remove()",
        "public int ColourKinds.colours(int)",
        "public int ColourKinds.order()",
        "public int ColourKinds.withCycles(int)",
        "public int ColourKinds.kinds()",
        "public int ColourKinds.kindsWith(int,int)",
        "public int ColourKinds.kindsWithAll()",
        "public int ColourKinds.name(int)",
        "public int ColourKinds.size(int)",
        "public boolean ColourKinds.alike(int,int)",
        "public int ColourKinds.still()",
        "public int ColourKinds.selfExchanged()",
        "public int ColourKinds.orbits()",
        "public int ColourKinds.pairKinds()");

    private static int wrong = 0;

    private static void require(boolean holds, String what) {
        if (!holds) {
            wrong++;
            System.out.println(what);
        }
    }

    private static void note(Set<String> shown, Member member, String text) {
        if (!Modifier.isPrivate(member.getModifiers())) {
            shown.add(text);
        }
    }

    public static void main(String[] args) {
        Class<ColourKinds> face = ColourKinds.class;
        Set<String> shown = new TreeSet<>();
        Set<String> publicNames = new TreeSet<>();
        for (Field field : face.getDeclaredFields()) {
            note(shown, field, field.toString());
            boolean number = field.getType() == int.class || field.getType() == long.class;
            boolean constant = Modifier.isFinal(field.getModifiers()) && number;
            require(!Modifier.isStatic(field.getModifiers()) || constant, "no constant: " + field);
        }
        for (Constructor<?> constructor : face.getDeclaredConstructors()) {
            note(shown, constructor, constructor.toString());
        }
        for (Method method : face.getDeclaredMethods()) {
            note(shown, method, method.toString());
            if (Modifier.isPublic(method.getModifiers())) {
                publicNames.add(method.getName());
            }
        }
        for (Method method : face.getDeclaredMethods()) {
            boolean hidden = Modifier.isPrivate(method.getModifiers());
            require(!hidden || !publicNames.contains(method.getName()), "private with a public name: " + method);
        }
        for (String member : FACE) {
            require(shown.contains(member), "missing: " + member);
        }
        for (String member : shown) {
            require(FACE.contains(member), "not in the document: " + member);
        }
        require(face.getModifiers() == (Modifier.PUBLIC | Modifier.FINAL), "the class is not just public and final");
        require(face.getSuperclass() == Object.class && face.getInterfaces().length == 0, "the class extends something");
        require(face.getDeclaredClasses().length == 0, "the class has a nested one");
        System.out.println(wrong == 0 ? "the face is as due" : wrong + " faults in the face");
        if (wrong != 0) {
            System.exit(1);
        }
    }
}
