import java.lang.reflect.Constructor;
import java.lang.reflect.Field;
import java.lang.reflect.Method;
import java.lang.reflect.Modifier;
import java.util.ArrayList;
import java.util.List;
import java.util.TreeSet;

/** The public face, and nothing beside it that is not private. */
public final class FaceTest {
    private static final String[] METHODS = {
        "copy 2", "look 2", "stay 4", "hand 2", "form 3", "sample 3", "note 5", "of 2", "terms 2", "feed 5", "end 1",
        "row 1", "trimmed 0", "text 0", "fault 0", "use 1", "weight 2", "may 2", "cost 2", "tree 0", "whose 1",
        "sure 1", "come 2", "net 2", "agree 2", "families 0", "family 1", "joins 1", "times 3", "written 1",
        "towns 1", "dates 2", "read 2", "stops 2", "many 2", "chao 0", "censor 3", "late 2", "next 1", "run 1",
        "world 2", "image 1", "back 1", "count 1", "status 0",
    };

    public static void main(String[] args) {
        List<String> wrong = new ArrayList<>();
        TreeSet<String> left = new TreeSet<>(List.of(METHODS));
        TreeSet<String> names = new TreeSet<>();
        for (String method : METHODS) {
            names.add(method.substring(0, method.indexOf(' ')));
        }
        for (Method method : SkyMargins.class.getDeclaredMethods()) {
            String called = method.getName() + " " + method.getParameterCount();
            boolean isPublic = Modifier.isPublic(method.getModifiers());
            boolean isPrivate = Modifier.isPrivate(method.getModifiers());
            if (isPublic && (!left.remove(called) || !allInt(method))) {
                wrong.add("not of the face: " + method);
            }
            if (!isPublic && (!isPrivate || names.contains(method.getName()))) {
                wrong.add("not private, or named as a public one: " + method);
            }
        }
        for (String missing : left) {
            wrong.add("missing: " + missing);
        }
        for (Field field : SkyMargins.class.getDeclaredFields()) {
            boolean none = field.getName().equals("NONE") && Modifier.isPublic(field.getModifiers())
                && Modifier.isStatic(field.getModifiers()) && Modifier.isFinal(field.getModifiers());
            if (!none && !Modifier.isPrivate(field.getModifiers())) {
                wrong.add("field: " + field);
            }
        }
        Constructor<?>[] made = SkyMargins.class.getDeclaredConstructors();
        if (made.length != 1 || !Modifier.isPublic(made[0].getModifiers()) || made[0].getParameterCount() != 0) {
            wrong.add("constructors");
        }
        if (!Modifier.isFinal(SkyMargins.class.getModifiers()) || SkyMargins.NONE != -1) {
            wrong.add("the class or its constant");
        }
        for (Class<?> inside : SkyMargins.class.getDeclaredClasses()) {
            if (!Modifier.isStatic(inside.getModifiers()) || Modifier.isPublic(inside.getModifiers())) {
                wrong.add("class inside: " + inside);
            }
            for (Method method : inside.getDeclaredMethods()) {
                if (names.contains(method.getName())) {
                    wrong.add("named as a public one: " + method);
                }
            }
        }
        for (String line : wrong) {
            System.out.println(line);
        }
        if (!wrong.isEmpty()) {
            System.exit(1);
        }
    }

    private static boolean allInt(Method method) {
        boolean all = method.getReturnType() == int.class;
        for (Class<?> type : method.getParameterTypes()) {
            all = all && type == int.class;
        }
        return all;
    }
}
