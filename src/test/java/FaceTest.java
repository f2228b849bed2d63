import java.lang.reflect.Constructor;
import java.lang.reflect.Field;
import java.lang.reflect.Method;
import java.lang.reflect.Modifier;
import java.util.ArrayList;
import java.util.Arrays;
import java.util.HashSet;
import java.util.List;
import java.util.Set;

/** The public face: each method, constructor and constant of the document, and nothing else. */
public final class FaceTest {
    private static final String[] FACE = {
        "NewsReel()",
        "int appendText(int) IllegalStateException",
        "int truncateText(int) IllegalArgumentException",
        "int load()", "int errorCode()", "int errorPosition()",
        "int count(int) IllegalArgumentException",
        "int shot(int,int) IndexOutOfBoundsException,IllegalArgumentException",
        "int map(int,int) IndexOutOfBoundsException,IllegalArgumentException",
        "int ban(int,int) IndexOutOfBoundsException,IllegalArgumentException",
        "int word(int,int) IndexOutOfBoundsException,IllegalArgumentException",
        "int piece(int,int) IndexOutOfBoundsException,IllegalArgumentException",
        "int reel(int) IllegalArgumentException",
        "int screen(int)", "int spoken(int)",
        "int account(int) IllegalArgumentException",
        "int faults(int) IllegalArgumentException",
        "int fault(int,int) IndexOutOfBoundsException,IllegalArgumentException",
        "boolean fits()",
        "double share(int) IndexOutOfBoundsException",
        "float pace()",
        "int best(int) IllegalArgumentException",
        "int bestWeek()", "int bestSpeed()", "int edit()", "int say()", "int assemble()",
        "int insert(int,int,int) IndexOutOfBoundsException,IllegalArgumentException",
        "int trim(int,int) IndexOutOfBoundsException,IllegalArgumentException",
        "int remove(int) IndexOutOfBoundsException",
        "int move(int,int) IndexOutOfBoundsException",
        "int setWeek(int) IllegalArgumentException",
        "int setVoice(int,int) IllegalArgumentException",
        "int setSlack(int) IllegalArgumentException",
        "int writeReel()", "int writeVoice()", "int output(int)", "int undo()",
        "void save(int) IllegalArgumentException",
        "void restore(int) IllegalArgumentException,IllegalStateException",
        "int NONE"};

    public static void main(String[] args) {
        List<String> due = new ArrayList<>(Arrays.asList(FACE));
        List<String> got = new ArrayList<>();
        for (Constructor<?> made : NewsReel.class.getDeclaredConstructors()) {
            got.add("NewsReel" + kinds(made.getParameterTypes(), "(", ")"));
        }
        Set<String> publicNames = new HashSet<>();
        for (Method method : NewsReel.class.getDeclaredMethods()) {
            if (!Modifier.isPrivate(method.getModifiers())) {
                got.add(method.getReturnType() + " " + method.getName() + kinds(method.getParameterTypes(), "(", ")")
                        + kinds(method.getExceptionTypes(), method.getExceptionTypes().length == 0 ? "" : " ", ""));
                publicNames.add(method.getName());
            }
        }
        for (Field field : NewsReel.class.getDeclaredFields()) {
            if (!Modifier.isPrivate(field.getModifiers())) {
                got.add(field.getType() + " " + field.getName());
            }
        }
        due.sort(null);
        got.sort(null);
        Expect.dueText("the face", String.join("\n", got), String.join("\n", due));
        for (Method method : NewsReel.class.getDeclaredMethods()) {
            if (Modifier.isPrivate(method.getModifiers())) {
                Expect.due("a public name of " + method, publicNames.contains(method.getName()), false);
            }
        }
        Expect.due("final", Modifier.isFinal(NewsReel.class.getModifiers()), true);
        Expect.end("FaceTest");
    }

    private static String kinds(Class<?>[] kinds, String ahead, String behind) {
        List<String> names = new ArrayList<>();
        for (Class<?> kind : kinds) {
            names.add(kind.getSimpleName());
        }
        return ahead + String.join(",", names) + behind;
    }
}
