import java.lang.reflect.Constructor;
import java.lang.reflect.Field;
import java.lang.reflect.Method;
import java.lang.reflect.Modifier;
import java.util.Arrays;
import java.util.Set;
import java.util.TreeSet;

/** The public face, as the document tells it, and the rules of LANGUAGE.md on what is a member. */
final class FaceTest {
    private static final Check CHECK = new Check("FaceTest");

    private static final String[] FACE = {
        "int feed(int,int,int,int,int)", "int end(int)", "int market()", "int fault(int)",
        "int dealer(int,int)", "int heat()", "int price(int,int)", "int cheapest(int)",
        "int chorus()", "int lasts(int)", "int buy(int,int,int)", "int breathe(int,int)",
        "int free(int)", "int hour()", "boolean undo()", "boolean redo()", "int will(int,int,int)",
        "int low(int,int,int)", "int high(int,int,int)", "int plan(int,int,int,int)",
        "int gain(int)", "int clear(int)", "int spoils(int)", "int starve(int)", "int hush(int)",
        "int mean(int,int,int,int)", "int rest(int,int,int)", "int odds(int,int,int,int,int)",
        "int law(int)", "int song(int)", "int songs(int)", "int lies(int)",
        "int heard(int,int,boolean)", "boolean untell(int)", "int later(int)", "int fits(int)",
        "int sure(int)", "int ask(int,int,int)", "int image(int)", "int back(int)",
        "int about(int)"};

    public static void main(String[] args) {
        int itself = CricketHay.class.getModifiers();
        CHECK.due("public", true, Modifier.isPublic(itself));
        CHECK.due("final", true, Modifier.isFinal(itself));
        methods();
        constructors();
        fields(CricketHay.class);
        inner();
        CHECK.end();
    }

    private static String told(Method method) {
        StringBuilder parameters = new StringBuilder();
        for (Class<?> type : method.getParameterTypes()) {
            parameters.append(parameters.length() == 0 ? "" : ",").append(type);
        }
        return method.getReturnType() + " " + method.getName() + "(" + parameters + ")";
    }

    private static void methods() {
        Set<String> due = new TreeSet<>(Arrays.asList(FACE));
        CHECK.due("41 methods", 41, due.size());
        for (Method method : CricketHay.class.getDeclaredMethods()) {
            if (Modifier.isPrivate(method.getModifiers())) {
                continue;
            }
            CHECK.due("of the face: " + told(method), true, due.remove(told(method)));
            CHECK.due("an object's: " + told(method), false,
                Modifier.isStatic(method.getModifiers()));
        }
        CHECK.due("none is missing of " + due, true, due.isEmpty());
    }

    private static void constructors() {
        Constructor<?>[] all = CricketHay.class.getDeclaredConstructors();
        CHECK.due("constructors", 1, all.length);
        CHECK.due("its parameters", 0, all[0].getParameterCount());
        CHECK.due("it is public", true, Modifier.isPublic(all[0].getModifiers()));
    }

    private static void fields(Class<?> type) {
        int own = 0;
        for (Field field : type.getDeclaredFields()) {
            boolean fixed = Modifier.isStatic(field.getModifiers());
            if (fixed) {
                CHECK.due("final: " + field, true, Modifier.isFinal(field.getModifiers()));
            } else {
                own++;
            }
            if (type == CricketHay.class) {
                CHECK.due("private but NONE: " + field, !field.getName().equals("NONE"),
                    Modifier.isPrivate(field.getModifiers()));
            }
        }
        CHECK.due("at most twenty fields of " + type, true, own <= 20);
    }

    private static void inner() {
        Set<String> names = new TreeSet<>();
        for (Method method : CricketHay.class.getMethods()) {
            names.add(method.getName());
        }
        Class<?>[] inner = CricketHay.class.getDeclaredClasses();
        CHECK.due("at most twelve classes", true, inner.length + 1 <= 12);
        for (Class<?> type : inner) {
            CHECK.due("static: " + type, true, Modifier.isStatic(type.getModifiers()));
            CHECK.due("not public: " + type, false, Modifier.isPublic(type.getModifiers()));
            fields(type);
            for (Method method : type.getDeclaredMethods()) {
                CHECK.due("no name of the face: " + method, false,
                    names.contains(method.getName()));
                CHECK.due("at most seven parameters: " + method, true,
                    method.getParameterCount() <= 7);
            }
        }
    }
}
