import java.lang.reflect.Constructor;
import java.lang.reflect.Field;
import java.lang.reflect.Method;
import java.lang.reflect.Modifier;
import java.util.ArrayList;
import java.util.Collections;
import java.util.List;

/** The public face is the document's and no more, and its constants have their values. */
final class FaceTest {
    private static final Due due = new Due("FaceTest");
    private static final String[] METHODS = {
        "about(int,int)", "begin(int,int,int)", "first(boolean)", "frame(int,int,int,int,int,int)",
        "out(int)", "paint(int,int,int,int)", "pixel(int,int)", "place()", "read()", "show(int)",
        "type(int,int)", "words(int,int,int,int)", "write()"};

    public static void main(String[] args) {
        constants();
        methods();
        others();
        due.end();
    }

    private static void constants() {
        due.is("NONE", FrameReel.NONE, -1);
        due.is("UNKNOWN", FrameReel.UNKNOWN, -11);
        due.is("OUTSIDE", FrameReel.OUTSIDE, -12);
        due.is("STATE", FrameReel.STATE, -13);
        due.is("ROOM", FrameReel.ROOM, -14);
        due.is("constants", FrameReel.class.getFields().length, 5);
        due.is("final", Modifier.isFinal(FrameReel.class.getModifiers()) ? 1 : 0, 1);
    }

    private static void methods() {
        List<String> found = new ArrayList<>();
        for (Method method : FrameReel.class.getDeclaredMethods()) {
            if (!Modifier.isPrivate(method.getModifiers())) {
                StringBuilder name = new StringBuilder(method.getName()).append('(');
                for (Class<?> parameter : method.getParameterTypes()) {
                    name.append(name.charAt(name.length() - 1) == '(' ? "" : ",");
                    name.append(parameter.getName());
                }
                found.add(name.append(')').toString());
                due.is(name + " answers int", method.getReturnType() == int.class ? 1 : 0, 1);
            }
        }
        Collections.sort(found);
        due.is("the methods are " + found, found.equals(List.of(METHODS)) ? 1 : 0, 1);
    }

    private static void others() {
        for (Constructor<?> constructor : FrameReel.class.getDeclaredConstructors()) {
            due.is("a constructor's parameters", constructor.getParameterCount(), 0);
        }
        for (Field field : FrameReel.class.getDeclaredFields()) {
            int m = field.getModifiers();
            due.is(field.getName() + " is public or private",
                Modifier.isPublic(m) || Modifier.isPrivate(m) ? 1 : 0, 1);
        }
    }
}
