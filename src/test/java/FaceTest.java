import java.lang.reflect.Constructor;
import java.lang.reflect.Field;
import java.lang.reflect.Method;
import java.lang.reflect.Modifier;
import java.util.ArrayList;
import java.util.Collections;
import java.util.List;

/** The public face, and what LANGUAGE.md says of members that reflection can see. */
public final class FaceTest {
    private static final List<String> METHODS = List.of(
        "public boolean DaeProcessor.setMemory(int,int)",
        "public boolean DaeProcessor.setRegister(int,int)",
        "public int DaeProcessor.addressSide()",
        "public int DaeProcessor.emit(int,int,int,int)",
        "public int DaeProcessor.memory(int)",
        "public int DaeProcessor.register(int)",
        "public int DaeProcessor.retract()",
        "public int DaeProcessor.run()",
        "public void DaeProcessor.clear()");

    private static final String[] CONSTANTS = {
        "ADD", "SUB", "MUL", "XOR", "LESS", "ADDI", "LOAD", "STORE", "SKIPZ", "REPEAT", "END"
    };

    public static void main(String[] args) throws Exception {
        Class<?> face = DaeProcessor.class;
        Check.due("public and final", face.getModifiers(), Modifier.PUBLIC | Modifier.FINAL);
        Check.due("nested classes", face.getDeclaredClasses().length, 0);
        constructors(face);
        methods(face);
        fields(face);
        Check.finish();
    }

    private static void constructors(Class<?> face) {
        Constructor<?>[] all = face.getDeclaredConstructors();
        Check.due("constructors", all.length, 1);
        Check.due("its form", all[0].toString().equals("public DaeProcessor(int,int)"), true);
    }

    private static void methods(Class<?> face) {
        List<String> open = new ArrayList<>();
        for (Method m : face.getDeclaredMethods()) {
            if (!Modifier.isPrivate(m.getModifiers())) {
                open.add(m.toString());
            }
        }
        Collections.sort(open);
        Check.due("the methods " + open, open.equals(METHODS), true);
    }

    private static void fields(Class<?> face) throws Exception {
        int constants = Modifier.PUBLIC | Modifier.STATIC | Modifier.FINAL;
        int seen = 0;
        for (Field f : face.getDeclaredFields()) {
            if (Modifier.isPrivate(f.getModifiers())) {
                boolean isStatic = Modifier.isStatic(f.getModifiers());
                Check.due(f + " is no static array", isStatic && f.getType().isArray(), false);
            } else {
                seen++;
                Check.due("modifiers of " + f, f.getModifiers(), constants);
            }
        }
        Check.due("constants", seen, CONSTANTS.length + 3);
        for (int op = 0; op < CONSTANTS.length; op++) {
            Check.due(CONSTANTS[op], face.getField(CONSTANTS[op]).getInt(null), op);
        }
        Check.due("BAD", face.getField("BAD").getInt(null), -1);
        Check.due("FULL", face.getField("FULL").getInt(null), -2);
        Check.due("MALFORMED", face.getField("MALFORMED").getInt(null), -3);
    }
}
