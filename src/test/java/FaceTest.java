import java.lang.reflect.Constructor;
import java.lang.reflect.Field;
import java.lang.reflect.Method;
import java.lang.reflect.Modifier;
import java.util.ArrayList;
import java.util.Collections;
import java.util.List;

/** The class has the face of the document, and no other member that can be seen. */
final class FaceTest {
    private static final String[] METHODS = {
        "int alike(int)", "int append(int)", "int bestTurn()", "int clear()", "int count(int)", "int drop(int)",
        "int echo(int,int,int)", "int fault()", "int fits(int,int,int)", "int ghost(int,int)", "int go()",
        "int ifTurn(int,int)", "int ifWall(int,int,int)", "int load()", "int restore()", "int save()", "int set(int,int)",
        "int sign(int)", "int spacings(int,int,int,int)", "int target(int,int,int,boolean)", "int targetOf(int,int)",
        "int told(int,int)", "double truth()", "int undo()", "int unfold(int,int,int)"
    };

    private FaceTest() {
    }

    public static void main(String[] args) throws IllegalAccessException {
        Due due = new Due("FaceTest");
        List<String> wanted = new ArrayList<>(List.of(METHODS));
        List<String> seen = new ArrayList<>();
        for (Method method : EchoTurns.class.getDeclaredMethods()) {
            if (!Modifier.isPrivate(method.getModifiers()) && !method.isSynthetic()) {
                seen.add(described(method));
                due.same(method + " is public and no static one", Modifier.isPublic(method.getModifiers())
                    && !Modifier.isStatic(method.getModifiers()) ? 1 : 0, 1);
            }
        }
        Collections.sort(wanted);
        Collections.sort(seen);
        due.same("the methods are those of the face: " + seen, wanted.equals(seen) ? 1 : 0, 1);
        due.same("the class is public and final", EchoTurns.class.getModifiers(), Modifier.PUBLIC | Modifier.FINAL);
        Constructor<?>[] constructors = EchoTurns.class.getDeclaredConstructors();
        due.same("constructors", constructors.length, 1);
        due.same("the constructor is public", constructors[0].getModifiers(), Modifier.PUBLIC);
        due.same("the constructor's parameters", constructors[0].getParameterCount(), 0);
        lookAtConstants(due);
        due.end();
    }

    private static String described(Method method) {
        StringBuilder text = new StringBuilder(method.getReturnType() + " " + method.getName() + "(");
        for (Class<?> type : method.getParameterTypes()) {
            text.append(text.charAt(text.length() - 1) == '(' ? "" : ",").append(type);
        }
        return text.append(")").toString();
    }

    private static void lookAtConstants(Due due) throws IllegalAccessException {
        String seen = "";
        for (Field field : EchoTurns.class.getDeclaredFields()) {
            if (!Modifier.isPrivate(field.getModifiers())) {
                seen += field.getName() + "=" + field.getInt(null) + " ";
            }
        }
        String wanted = "INVALID_ARGUMENT=-1 NOT_POSSIBLE=-2 LIMIT_REACHED=-3 NOT_FOUND=-4 BLIND=0 LOUD=1 ";
        due.same("the constants: " + seen, seen.equals(wanted) ? 1 : 0, 1);
    }
}
