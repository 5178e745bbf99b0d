import java.lang.reflect.Constructor;
import java.lang.reflect.Field;
import java.lang.reflect.Member;
import java.lang.reflect.Method;
import java.lang.reflect.Modifier;
import java.util.ArrayList;
import java.util.Arrays;
import java.util.Collections;
import java.util.List;

/** The public face is the document's, and nothing else can be seen from outside. */
public final class FaceTest {
    public static void main(String[] args) {
        Rig.due("the class is public and final",
            FrameMachine.class.getModifiers() & (Modifier.PUBLIC | Modifier.FINAL), Modifier.PUBLIC | Modifier.FINAL);
        Rig.due("NONE", FrameMachine.NONE, -1);
        List<String> want = new ArrayList<>(Arrays.asList(
            "public static final int FrameMachine.NONE",
            "public FrameMachine()",
            "public boolean FrameMachine.poke(int,int) throws java.lang.IllegalArgumentException",
            "public int FrameMachine.peek(int) throws java.lang.IllegalArgumentException",
            "public boolean FrameMachine.set(int,int) throws java.lang.IllegalArgumentException",
            "public int FrameMachine.status(int)",
            "public int FrameMachine.run(int) throws java.lang.IllegalArgumentException",
            "public boolean FrameMachine.comes(int) throws java.lang.IllegalArgumentException",
            "public int FrameMachine.reset()",
            "public int FrameMachine.get(int) throws java.lang.IllegalArgumentException",
            "public int FrameMachine.gone(int)",
            "public int FrameMachine.about(int)"));
        List<String> got = new ArrayList<>();
        for (Field f : FrameMachine.class.getDeclaredFields()) {
            addVisible(got, f, f.toString());
        }
        for (Constructor<?> c : FrameMachine.class.getDeclaredConstructors()) {
            addVisible(got, c, c.toString());
        }
        for (Method m : FrameMachine.class.getDeclaredMethods()) {
            addVisible(got, m, m.toString());
        }
        Collections.sort(want);
        Collections.sort(got);
        if (!got.equals(want)) {
            System.out.println("visible: " + got);
        }
        Rig.due("the visible members are the document's", got.equals(want) ? 1 : 0, 1);
        for (Class<?> c : FrameMachine.class.getDeclaredClasses()) {
            Rig.due(c.getName() + " is private or package-visible, and static",
                c.getModifiers() & (Modifier.PUBLIC | Modifier.PROTECTED | Modifier.STATIC), Modifier.STATIC);
            for (Field f : c.getDeclaredFields()) {
                int m = f.getModifiers();
                Rig.due(f + " is no changing static state", Modifier.isStatic(m) && !Modifier.isFinal(m) ? 1 : 0, 0);
            }
        }
        Rig.end("FaceTest");
    }

    private static void addVisible(List<String> names, Member member, String name) {
        if (!Modifier.isPrivate(member.getModifiers()) && !member.isSynthetic()) {
            names.add(name);
        }
    }
}
