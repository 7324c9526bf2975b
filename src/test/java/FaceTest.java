import java.lang.reflect.Constructor;
import java.lang.reflect.Field;
import java.lang.reflect.Member;
import java.lang.reflect.Method;
import java.lang.reflect.Modifier;
import java.util.Arrays;
import java.util.Set;
import java.util.TreeSet;

/** The public face of the document: these members, with these values, and no others. */
public final class FaceTest {
    private static final Check CHECK = new Check();
    private static final String[] CONSTANTS = {
        "A_WORLD=0", "A_OWNER=1", "A_REP=2", "A_P1=3", "A_P2=4",
        "OP_NEW=1", "OP_MOVE=2", "OP_LOAD=3", "OP_STORE=4", "OP_CALL=5", "OP_NULL=6", "OP_RETURN=7",
        "BODY_MAIN=8", "MODE_UNCHECKED=0", "MODE_CHECKED=1",
        "E_OK=0", "E_BADTYPE=1", "E_CONTEXT=2", "E_WELLFORMED=3", "E_BADOPERAND=4", "E_MISMATCH=5", "E_REP=6",
        "ST_EDIT=0", "ST_RUNNING=1", "ST_DONE=2", "ST_NULL=3", "ST_DEPTH=4", "ST_HEAPFULL=5", "ST_VIOLATION=6"};
    private static final String[] METHODS = {
        "int addClass[int]", "int addField[int, int]", "boolean setSignature[int, int, int]",
        "boolean setLocal[int, int, int]", "int addStmt[int, int, int, int]", "int compile[int]",
        "int getErrorAt[]", "int run[int]", "boolean restart[]", "int getStatus[]", "int getObjectCount[]",
        "int getObject[int, int]", "int getFrameCount[]", "int getFrame[int, int]", "int getDecl[int, int]",
        "int getStmt[int, int, int]"};

    public static void main(String[] args) throws IllegalAccessException {
        Class<?> face = OwnerDominance.class;
        CHECK.due("public", Modifier.isPublic(face.getModifiers()), true);
        CHECK.due("final", Modifier.isFinal(face.getModifiers()), true);
        CHECK.due("nested classes", face.getDeclaredClasses().length, 0);
        constants(face);
        methods(face);
        Constructor<?>[] constructors = face.getDeclaredConstructors();
        CHECK.due("constructors", constructors.length, 1);
        CHECK.due("public constructor", Modifier.isPublic(constructors[0].getModifiers()), true);
        CHECK.same("constructor", Arrays.toString(constructors[0].getParameterTypes()), "[int]");
        CHECK.end();
    }

    private static boolean isPublic(Member member) {
        boolean open = Modifier.isPublic(member.getModifiers());
        if (!open) {
            CHECK.due(member.getName() + " is private", Modifier.isPrivate(member.getModifiers()), true);
        }
        return open;
    }

    private static void constants(Class<?> face) throws IllegalAccessException {
        Set<String> found = new TreeSet<>();
        for (Field field : face.getDeclaredFields()) {
            if (isPublic(field)) {
                int modifiers = field.getModifiers();
                CHECK.due(field.getName() + " is static", Modifier.isStatic(modifiers), true);
                CHECK.due(field.getName() + " is final", Modifier.isFinal(modifiers), true);
                CHECK.due(field.getName() + " is an int", field.getType() == int.class, true);
                found.add(field.getName() + "=" + field.getInt(null));
            }
        }
        CHECK.same("the constants", found.toString(), new TreeSet<>(Arrays.asList(CONSTANTS)).toString());
    }

    private static void methods(Class<?> face) {
        Set<String> found = new TreeSet<>();
        Set<String> open = new TreeSet<>();
        for (Method method : face.getDeclaredMethods()) {
            if (isPublic(method)) {
                open.add(method.getName());
                CHECK.due(method.getName() + " is static", Modifier.isStatic(method.getModifiers()), false);
                StringBuilder types = new StringBuilder("[");
                for (Class<?> type : method.getParameterTypes()) {
                    types.append(types.length() > 1 ? ", " : "").append(type.getName());
                }
                found.add(method.getReturnType() + " " + method.getName() + types + "]");
            }
        }
        for (Method method : face.getDeclaredMethods()) {
            if (!Modifier.isPublic(method.getModifiers())) {
                CHECK.due(method.getName() + " bears a public name", open.contains(method.getName()), false);
            }
        }
        CHECK.same("the methods", found.toString(), new TreeSet<>(Arrays.asList(METHODS)).toString());
    }
}
