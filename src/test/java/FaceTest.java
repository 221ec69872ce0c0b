import java.lang.reflect.Constructor;
import java.lang.reflect.Field;
import java.lang.reflect.Method;
import java.lang.reflect.Modifier;
import java.util.ArrayList;
import java.util.Collections;
import java.util.List;

/** The public face: its constants, its constructor, its methods, and no other. */
public final class FaceTest {
    private static final String[] METHODS = {
        "int all(int)", "int at(int,int)", "int best(int,int)", "int chosen(int,int)", "int colours(int,int,int)",
        "int copy(int,int,int,int,int)", "int count(int)", "int counted(int,int,int,int)", "int drop(int)",
        "int end(int)", "int fate(int,int)", "int group()", "int image()", "int item(int,int,int,int)",
        "int mark(int,int,int)", "int of(int,int)", "int often(int,int,int)", "int person(int,int,boolean)",
        "int restore()", "int rule(int,int)", "int sheet(int,int,int)", "int slots(int,int,int,int,int)",
        "int square(int,int)", "int stand(int)", "int told(int,int,int)", "int type(long,int)", "int value(int,int)",
        "int way()", "int worth(int)"};

    public static void main(String[] args) {
        Check c = new Check("FaceTest");
        c.due("final", Modifier.isFinal(FlagWalk.class.getModifiers()) ? 1 : 0, 1);
        c.due("constructors", FlagWalk.class.getDeclaredConstructors().length, 1);
        for (Constructor<?> made : FlagWalk.class.getDeclaredConstructors()) {
            boolean open = made.getParameterCount() == 0 && Modifier.isPublic(made.getModifiers());
            c.due("constructor " + made, open ? 1 : 0, 1);
        }
        List<String> found = new ArrayList<>();
        for (Method m : FlagWalk.class.getDeclaredMethods()) {
            if (!Modifier.isPrivate(m.getModifiers())) {
                StringBuilder said = new StringBuilder(m.getReturnType() + " " + m.getName() + "(");
                for (Class<?> type : m.getParameterTypes()) {
                    said.append(said.charAt(said.length() - 1) == '(' ? "" : ",").append(type);
                }
                found.add(said.append(')').toString());
                c.due("public, not static " + m, m.getModifiers() == Modifier.PUBLIC ? 1 : 0, 1);
            }
        }
        Collections.sort(found);
        c.due("methods " + found, found.equals(List.of(METHODS)) ? 1 : 0, 1);
        int constants = 0;
        for (Field f : FlagWalk.class.getDeclaredFields()) {
            constants += Modifier.isPrivate(f.getModifiers()) ? 0 : 1;
        }
        c.due("fields that are not private", constants, 8);
        c.due("BAD", FlagWalk.BAD, -1);
        c.due("NOT", FlagWalk.NOT, -2);
        c.due("FULL", FlagWalk.FULL, -3);
        c.due("NONE", FlagWalk.NONE, -4);
        c.due("NULL", FlagWalk.NULL, -11);
        c.due("CAST", FlagWalk.CAST, -12);
        c.due("INDEX", FlagWalk.INDEX, -13);
        c.due("SIZE", FlagWalk.SIZE, -14);
        c.finish();
    }
}
