import java.lang.reflect.Constructor;
import java.lang.reflect.Field;
import java.lang.reflect.Method;
import java.lang.reflect.Modifier;
import java.util.Map;
import java.util.NoSuchElementException;
import java.util.Set;
import java.util.TreeSet;

/** The class has the document's face and nothing else that can be seen. */
public final class FaceTest {
    private static final Set<String> FACE = Set.of(
        "type(char)", "keep()", "open(int,int)", "create(int,boolean)", "read(int,int)", "write(int,int,int)",
        "close(int,int)", "remove(int)", "stat(int)", "bind(int,int)", "mount(int,int,int)", "unmount(int)",
        "fork(int,boolean)", "exit(int)", "wire(int,int)", "server(int,int)", "process(int,int)");

    private static final Class<?> ARGUMENT = IllegalArgumentException.class;
    private static final Class<?> STATE = IllegalStateException.class;
    private static final Class<?> ELEMENT = NoSuchElementException.class;
    private static final Class<?> UNSUPPORTED = UnsupportedOperationException.class;

    private static final Map<String, Set<Class<?>>> THROWN = Map.ofEntries(
        Map.entry("type", Set.of(STATE)), Map.entry("keep", Set.of()),
        Map.entry("open", Set.of(ARGUMENT, STATE, ELEMENT, UNSUPPORTED)),
        Map.entry("create", Set.of(ARGUMENT, STATE, ELEMENT, UNSUPPORTED)),
        Map.entry("read", Set.of(ARGUMENT, UNSUPPORTED, ELEMENT)),
        Map.entry("write", Set.of(ARGUMENT, STATE, ELEMENT, UNSUPPORTED)), Map.entry("close", Set.of(ARGUMENT)),
        Map.entry("remove", Set.of(ARGUMENT, ELEMENT, UNSUPPORTED)),
        Map.entry("stat", Set.of(ARGUMENT, ELEMENT, UNSUPPORTED)),
        Map.entry("bind", Set.of(ARGUMENT, STATE, ELEMENT, UNSUPPORTED)),
        Map.entry("mount", Set.of(ARGUMENT, STATE, ELEMENT, UNSUPPORTED)),
        Map.entry("unmount", Set.of(ARGUMENT, ELEMENT, UNSUPPORTED)), Map.entry("fork", Set.of(ARGUMENT, STATE)),
        Map.entry("exit", Set.of(ARGUMENT)), Map.entry("wire", Set.of()), Map.entry("server", Set.of()),
        Map.entry("process", Set.of()));

    public static void main(String[] args) {
        Class<?> face = NameSpaces.class;
        Session.due("public and final", face.getModifiers() & (Modifier.PUBLIC | Modifier.FINAL), Modifier.PUBLIC | Modifier.FINAL);
        Set<String> seen = new TreeSet<>();
        Set<String> names = new TreeSet<>();
        FACE.forEach(m -> names.add(m.substring(0, m.indexOf('('))));
        for (Method m : face.getDeclaredMethods()) {
            if (Modifier.isPrivate(m.getModifiers())) {
                Session.due(m.getName() + " is private and not a name of the face", names.contains(m.getName()) ? 1 : 0, 0);
            } else {
                seen.add(m.getName() + signature(m.getParameterTypes()));
                Set<Class<?>> thrown = Set.of(m.getExceptionTypes());
                Session.due(m.getName() + " tells what it throws", thrown.equals(THROWN.get(m.getName())) ? 1 : 0, 1);
                Session.due(m.getName() + " answers an int", m.getReturnType() == int.class ? 1 : 0, 1);
            }
        }
        Session.due("the methods are the document's", seen.equals(new TreeSet<>(FACE)) ? 1 : 0, 1);
        for (Field f : face.getDeclaredFields()) {
            Session.due(f.getName() + " is private", Modifier.isPrivate(f.getModifiers()) ? 1 : 0, 1);
        }
        Constructor<?>[] made = face.getDeclaredConstructors();
        Session.due("one constructor", made.length, 1);
        Session.due("without parameters", made[0].getParameterCount(), 0);
        for (Class<?> inside : face.getDeclaredClasses()) {
            Session.due(inside.getName() + " is private and static", inside.getModifiers() & (Modifier.PRIVATE | Modifier.STATIC), Modifier.PRIVATE | Modifier.STATIC);
        }
        Session.end("the face");
    }

    private static String signature(Class<?>[] types) {
        StringBuilder all = new StringBuilder("(");
        for (Class<?> type : types) {
            all.append(all.length() > 1 ? "," : "").append(type.getName());
        }
        return all.append(')').toString();
    }
}
