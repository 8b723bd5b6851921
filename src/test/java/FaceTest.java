import java.lang.reflect.Field;
import java.lang.reflect.Member;
import java.lang.reflect.Method;
import java.lang.reflect.Modifier;
import java.util.Arrays;
import java.util.Set;
import java.util.TreeSet;

/** The public face is the document's, whole and no more (rules 1 and 5 of LANGUAGE.md). */
public final class FaceTest {
    private static final Checker CHECK = new Checker();
    private static final String[] FACE = {
        "public static final int BAD",
        "public static final int FULL",
        "public static final int NONE",
        "public int gate(int,int,int,int)",
        "public int drop()",
        "public int signals()",
        "public boolean next(int,int)",
        "public boolean begin(int,int)",
        "public boolean watch(int)",
        "public boolean ever(int)",
        "public boolean agree(int,int)",
        "public int depth(int)",
        "public int input(int)",
        "public boolean holds(int,int)",
        "public boolean keeps(int,int)",
        "public int reached()",
        "public int far(int)",
        "public int step(int,int)",
        "public int watched(int,int)",
    };

    public static void main(String[] args) {
        Set<String> found = new TreeSet<>();
        Set<String> publicNames = new TreeSet<>();
        for (Field field : StateSearcher.class.getDeclaredFields()) {
            note(found, field, field.toString());
            boolean constant = field.getType() == int.class && Modifier.isFinal(field.getModifiers());
            CHECK.due(field + " may be static", !Modifier.isStatic(field.getModifiers()) || constant, true);
        }
        for (Method method : StateSearcher.class.getDeclaredMethods()) {
            note(found, method, method.toString());
            if (!Modifier.isPrivate(method.getModifiers())) {
                publicNames.add(method.getName());
            }
        }
        for (Method method : StateSearcher.class.getDeclaredMethods()) {
            boolean clash = Modifier.isPrivate(method.getModifiers()) && publicNames.contains(method.getName());
            CHECK.due(method + " bears a public name", clash, false);
        }
        Set<String> want = new TreeSet<>(Arrays.asList(FACE));
        CHECK.due("the face " + found + " is the document's", found.equals(want), true);
        CHECK.due("constructors", StateSearcher.class.getDeclaredConstructors().length, 1);
        CHECK.due("public constructors", StateSearcher.class.getConstructors().length, 1);
        CHECK.due("nested classes", StateSearcher.class.getDeclaredClasses().length, 0);
        CHECK.due("public and final", StateSearcher.class.getModifiers(), Modifier.PUBLIC | Modifier.FINAL);
        CHECK.end("FaceTest");
    }

    private static void note(Set<String> found, Member member, String text) {
        if (!Modifier.isPrivate(member.getModifiers())) {
            found.add(text.replace("StateSearcher.", ""));
        }
    }
}
