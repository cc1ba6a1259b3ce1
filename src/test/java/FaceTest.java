import java.lang.reflect.Constructor;
import java.lang.reflect.Field;
import java.lang.reflect.Method;
import java.lang.reflect.Modifier;
import java.util.TreeSet;

/** The class has the document's face, and nothing beside it that others could see. */
public final class FaceTest {
    private static final String[] METHODS = {
        "int type(int)", "int wipe()", "int read(int)", "int flaw()", "int way(int,int)",
        "int word(int,int)", "int syllable(int,int)", "int mark(int,int)", "int unmark(int)",
        "int marked(int)", "int clash(int)", "int heard(int)", "int tell(int,int)",
        "int copyHeard()", "int near()", "int nearest(int)", "int learn()", "int share(int)",
        "int text(int)", "int sheet(int,int,int)", "int lose(int)", "int put(int,int,int,int)",
        "int get(int,int)", "int copy(int,int,int,int,int)", "int write(int)", "int count(int)",
        "long digest()"};

    public static void main(String[] args) {
        Due due = new Due();
        due.promise("face");
        TreeSet<String> wanted = new TreeSet<>();
        TreeSet<String> publicNames = new TreeSet<>();
        for (String method : METHODS) {
            wanted.add(method);
            publicNames.add(method.substring(method.indexOf(' ') + 1, method.indexOf('(')));
        }
        due.is("methods", seenMethods().toString(), wanted.toString());
        due.is("constants", seenConstants().toString(), "[BAD, FULL, NONE, NOT]");
        due.is("class", Modifier.toString(BeatWords.class.getModifiers()), "public final");
        Constructor<?>[] constructors = BeatWords.class.getDeclaredConstructors();
        due.is("constructors", constructors.length, 1);
        due.is("constructor", constructors[0].toString(), "public BeatWords()");
        privateNames(due, BeatWords.class, publicNames);
        for (Class<?> inside : BeatWords.class.getDeclaredClasses()) {
            due.is(inside.getName(), Modifier.isStatic(inside.getModifiers()) ? 1 : 0, 1);
            due.is(inside.getName(), Modifier.isPublic(inside.getModifiers()) ? 1 : 0, 0);
            privateNames(due, inside, publicNames);
        }
        due.end();
    }

    private static void privateNames(Due due, Class<?> type, TreeSet<String> publicNames) {
        for (Method method : type.getDeclaredMethods()) {
            boolean named = publicNames.contains(method.getName());
            boolean open = Modifier.isPublic(method.getModifiers());
            due.is("the name of " + method, named ? 1 : 0, open ? 1 : 0);
        }
    }

    private static TreeSet<String> seenMethods() {
        TreeSet<String> seen = new TreeSet<>();
        for (Method method : BeatWords.class.getDeclaredMethods()) {
            if (Modifier.isPrivate(method.getModifiers())) {
                continue;
            }
            StringBuilder told = new StringBuilder();
            told.append(method.getReturnType()).append(' ').append(method.getName()).append('(');
            for (Class<?> type : method.getParameterTypes()) {
                told.append(told.charAt(told.length() - 1) == '(' ? "" : ",").append(type);
            }
            seen.add(told.append(')').toString());
        }
        return seen;
    }

    private static TreeSet<String> seenConstants() {
        TreeSet<String> seen = new TreeSet<>();
        for (Field field : BeatWords.class.getDeclaredFields()) {
            if (!Modifier.isPrivate(field.getModifiers())) {
                seen.add(field.getName());
            }
        }
        return seen;
    }
}
