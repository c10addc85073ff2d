import java.lang.reflect.Constructor;
import java.lang.reflect.Field;
import java.lang.reflect.Method;
import java.lang.reflect.Modifier;
import java.util.Set;
import java.util.TreeSet;

/** The class bears the document's face, and nothing else that can be seen from outside. */
public final class FaceTest {
    private static final String[] FACE = {
        "int merchant(int,int)", "int write(int,int)", "int erase(int)", "int fault(int)",
        "long tells(int,int,int,int,int,long)", "int act(int,int,int)", "int force(int,int)",
        "int debt(int,int,int,int,int)", "int pay(int,int,int)", "int seal(int,int)", "int breaks(int,int)",
        "long owed(int,int)", "int purse(int,int,int)", "int share(int,int,int)", "int leave(int,int,int)",
        "int parted(int,int,int)", "int gate(int)", "int wide(int,int,int)", "int narrow(int)", "int mean(int)",
        "int better(int,int,int)", "int stone(int,int,int)", "int span(int,int)", "long balance(int,int)",
        "int fewest(int)", "int ring(int,int)", "int names(int)", "int ahead(int,int,int)", "int orders(int)",
        "int place(int,int,int)", "int order(int,int)", "int letter(int,int,int,int,int)",
        "int knows(int,int,int)", "int carries(int)", "int mention(int,int,int)", "int men(int)",
        "int load(int,int,int)", "int unload()", "int price(int,int)", "long plan(int,int)", "long part(int)",
        "int image(int)", "int from(int)", "int count(int)", "long digest()"};
    private static final Check CHECK = new Check("FaceTest");

    public static void main(String[] args) {
        CHECK.due("NONE", TinHouse.NONE, -1);
        CHECK.due("BAD", TinHouse.BAD, -2);
        CHECK.due("NO", TinHouse.NO, -3);
        CHECK.due("FULL", TinHouse.FULL, -4);
        int modifiers = TinHouse.class.getModifiers();
        CHECK.due("public and final", Modifier.isPublic(modifiers) && Modifier.isFinal(modifiers) ? 1 : 0, 1);
        methods();
        fields();
        Constructor<?>[] made = TinHouse.class.getDeclaredConstructors();
        CHECK.due("constructors", made.length, 1);
        CHECK.due("without parameters", made[0].getParameterCount(), 0);
        CHECK.due("public", Modifier.isPublic(made[0].getModifiers()) ? 1 : 0, 1);
        CHECK.end();
    }

    private static void methods() {
        Set<String> due = new TreeSet<>(Set.of(FACE));
        CHECK.due("methods of the document", due.size(), 45);
        Set<String> publicNames = new TreeSet<>();
        for (Method method : TinHouse.class.getDeclaredMethods()) {
            if (Modifier.isPrivate(method.getModifiers())) {
                continue;
            }
            publicNames.add(method.getName());
            boolean isFace = Modifier.isPublic(method.getModifiers()) && !Modifier.isStatic(method.getModifiers())
                    && due.remove(signature(method));
            CHECK.due("is of the document: " + signature(method), isFace ? 1 : 0, 1);
        }
        CHECK.due("missing " + due, due.size(), 0);
        for (Method method : TinHouse.class.getDeclaredMethods()) {
            boolean isAlike = Modifier.isPrivate(method.getModifiers()) && publicNames.contains(method.getName());
            CHECK.due("a private one bears its name: " + method.getName(), isAlike ? 1 : 0, 0);
        }
    }

    private static String signature(Method method) {
        StringBuilder text = new StringBuilder(method.getReturnType().getName());
        text.append(' ').append(method.getName()).append('(');
        for (Class<?> type : method.getParameterTypes()) {
            text.append(text.charAt(text.length() - 1) == '(' ? "" : ",").append(type.getName());
        }
        return text.append(')').toString();
    }

    private static void fields() {
        Set<String> constants = new TreeSet<>(Set.of("NONE", "BAD", "NO", "FULL"));
        for (Field field : TinHouse.class.getDeclaredFields()) {
            if (!Modifier.isPrivate(field.getModifiers())) {
                CHECK.due("is of the document: " + field.getName(), constants.remove(field.getName()) ? 1 : 0, 1);
            }
        }
        CHECK.due("missing " + constants, constants.size(), 0);
    }
}
