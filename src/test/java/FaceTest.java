import java.lang.reflect.Constructor;
import java.lang.reflect.Executable;
import java.lang.reflect.Field;
import java.lang.reflect.Method;
import java.lang.reflect.Modifier;
import java.util.ArrayList;
import java.util.HashSet;
import java.util.List;
import java.util.Set;
import java.util.TreeSet;

/** The public face, and those rules of LANGUAGE.md that can be seen in the compiled class. */
public final class FaceTest {
    private static final Check CHECK = new Check("FaceTest");
    private static final String BAD = " throws IllegalArgumentException";
    private static final String BAD_NOT_NOW = BAD + " IllegalStateException";
    private static final String BAD_BROKEN = BAD + " ArithmeticException";
    private static final String[] FACE = {
        "ParticleBox(int)",
        "int atom(double double double int)" + BAD_NOT_NOW,
        "void place(int double double)" + BAD,
        "void speed(int double double)" + BAD,
        "void sort(int double double double)" + BAD,
        "void cut(double double)" + BAD,
        "int bond(int int double double)" + BAD_NOT_NOW,
        "int rod(int int double)" + BAD_NOT_NOW,
        "void stuck(int boolean)" + BAD,
        "void thermostat(double)" + BAD,
        "void step(int int)" + BAD_NOT_NOW + " ArithmeticException",
        "double scale(double)" + BAD,
        "double energy(int)" + BAD_BROKEN,
        "double force(int int)" + BAD_BROKEN,
        "double told(int int)" + BAD,
        "double temperature()",
        "int sample()",
        "int bin(int int int)" + BAD,
        "int count(int)",
    };

    public static void main(String[] args) {
        faceIsWhole();
        restIsPrivate();
        classesInside();
        CHECK.end();
    }

    private static void faceIsWhole() {
        Set<String> due = new TreeSet<>(List.of(FACE));
        Set<String> got = new TreeSet<>();
        for (Constructor<?> one : ParticleBox.class.getDeclaredConstructors()) {
            CHECK.holds("the constructor is public", Modifier.isPublic(one.getModifiers()));
            got.add("ParticleBox" + rest(one));
        }
        for (Method one : ParticleBox.class.getDeclaredMethods()) {
            if (!Modifier.isPrivate(one.getModifiers())) {
                CHECK.holds(one + " is public", Modifier.isPublic(one.getModifiers()));
                CHECK.holds(one + " is not static", !Modifier.isStatic(one.getModifiers()));
                got.add(one.getReturnType().getSimpleName() + " " + one.getName() + rest(one));
            }
        }
        CHECK.holds("the face is " + got, got.equals(due));
        CHECK.holds("the class is final", Modifier.isFinal(ParticleBox.class.getModifiers()));
        CHECK.holds("the class is public", Modifier.isPublic(ParticleBox.class.getModifiers()));
    }

    private static String rest(Executable one) {
        List<String> taken = new ArrayList<>();
        for (Class<?> type : one.getParameterTypes()) {
            taken.add(type.getSimpleName());
        }
        StringBuilder text = new StringBuilder("(" + String.join(" ", taken) + ")");
        for (Class<?> type : one.getExceptionTypes()) {
            text.append(text.indexOf("throws") < 0 ? " throws " : " ").append(type.getSimpleName());
        }
        return text.toString();
    }

    private static void restIsPrivate() {
        Set<String> face = namesOfTheFace();
        for (Method one : ParticleBox.class.getDeclaredMethods()) {
            if (Modifier.isPrivate(one.getModifiers())) {
                CHECK.holds(one + " bears a name of its own", !face.contains(one.getName()));
            }
        }
        for (Field one : ParticleBox.class.getDeclaredFields()) {
            CHECK.holds(one + " is private", Modifier.isPrivate(one.getModifiers()));
            lookAtStatic(one);
        }
    }

    private static Set<String> namesOfTheFace() {
        Set<String> names = new HashSet<>();
        for (Method one : ParticleBox.class.getMethods()) {
            names.add(one.getName());
        }
        return names;
    }

    private static void classesInside() {
        Set<String> face = namesOfTheFace();
        Class<?>[] inside = ParticleBox.class.getDeclaredClasses();
        CHECK.holds("at most twelve classes", inside.length + 1 <= 12);
        for (Class<?> one : inside) {
            CHECK.holds(one + " is static", Modifier.isStatic(one.getModifiers()));
            CHECK.holds(one + " is not public", !Modifier.isPublic(one.getModifiers()));
            int fields = 0;
            for (Field field : one.getDeclaredFields()) {
                lookAtStatic(field);
                fields += Modifier.isStatic(field.getModifiers()) ? 0 : 1;
            }
            CHECK.holds(one + " has at most twenty fields", fields <= 20);
            for (Method method : one.getDeclaredMethods()) {
                CHECK.holds(method + " takes at most seven", method.getParameterCount() <= 7);
                CHECK.holds(method + " bears a name of its own", !face.contains(method.getName()));
            }
        }
    }

    private static void lookAtStatic(Field one) {
        if (Modifier.isStatic(one.getModifiers())) {
            CHECK.holds(one + " is final", Modifier.isFinal(one.getModifiers()));
            CHECK.holds(one + " is an int", one.getType() == int.class);
        }
    }
}
