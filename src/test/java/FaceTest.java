import java.lang.reflect.Constructor;
import java.lang.reflect.Field;
import java.lang.reflect.Method;
import java.lang.reflect.Modifier;
import java.util.Set;
import java.util.TreeSet;

/** The public face of the document, and the rules of LANGUAGE.md that can be seen on the loaded class. */
public final class FaceTest {
    private static final Set<String> FACE = Set.of(
            "begin(boolean,int)", "group(boolean,int)", "value(int)", "end()", "groups(int)", "values(int,int)",
            "valueAt(int,int,int)", "hasNote(int)", "label(int,int)", "sumByTag(int)", "recordsWith(int,int)");
    private static final Set<Class<?>> TYPES = Set.of(
            int.class, long.class, short.class, byte.class, char.class, boolean.class,
            int[].class, long[].class, short[].class, byte[].class, char[].class, boolean[].class);

    public static void main(String[] args) {
        classIsPublicAndFinal();
        constructorIsTheOneOfTheDocument();
        publicMethodsAreThoseOfTheDocument();
        fieldsArePrivateAndOfAllowedTypes();
        noCallThrows();
        Due.close();
    }

    private static void classIsPublicAndFinal() {
        Due.about("class");
        Class<?> type = DremelStore.class;
        Due.holds("public", Modifier.isPublic(type.getModifiers()));
        Due.holds("final", Modifier.isFinal(type.getModifiers()));
        Due.holds("no package", type.getPackageName().isEmpty());
        Due.holds("no class above it but Object", type.getSuperclass() == Object.class);
        Due.is("interfaces", type.getInterfaces().length, 0);
        Due.is("nested classes", type.getDeclaredClasses().length, 0);
    }

    private static void constructorIsTheOneOfTheDocument() {
        Due.about("constructor");
        Constructor<?>[] all = DremelStore.class.getDeclaredConstructors();
        Due.is("constructors", all.length, 1);
        Due.holds("public", Modifier.isPublic(all[0].getModifiers()));
        Due.is("parameters", all[0].getParameterCount(), 0);
    }

    private static void publicMethodsAreThoseOfTheDocument() {
        Due.about("methods");
        Set<String> seen = new TreeSet<>();
        Set<String> publicNames = new TreeSet<>();
        FACE.forEach(call -> publicNames.add(call.substring(0, call.indexOf('('))));
        for (Method method : DremelStore.class.getDeclaredMethods()) {
            if (Modifier.isPrivate(method.getModifiers())) {
                Due.holds(method.getName() + " is not the name of a public one", !publicNames.contains(method.getName()));
                Due.holds(method.getName() + " has at most seven parameters", method.getParameterCount() <= 7);
            } else {
                seen.add(signature(method));
                Due.holds(method.getName() + " is public", Modifier.isPublic(method.getModifiers()));
                Due.holds(method.getName() + " is not static", !Modifier.isStatic(method.getModifiers()));
                Due.holds(method.getName() + " answers an int", method.getReturnType() == int.class);
            }
        }
        Due.holds("the methods are " + new TreeSet<>(FACE) + ", not " + seen, seen.equals(FACE));
    }

    private static String signature(Method method) {
        StringBuilder text = new StringBuilder(method.getName()).append('(');
        String comma = "";
        for (Class<?> type : method.getParameterTypes()) {
            text.append(comma).append(type.getName());
            comma = ",";
        }
        return text.append(')').toString();
    }

    private static void fieldsArePrivateAndOfAllowedTypes() {
        Due.about("fields");
        for (Field field : DremelStore.class.getDeclaredFields()) {
            Class<?> type = field.getType();
            boolean number = type == int.class || type == long.class;
            boolean constant = Modifier.isStatic(field.getModifiers());
            Due.holds(field.getName() + " is private", Modifier.isPrivate(field.getModifiers()));
            Due.holds(field.getName() + " is of an allowed type", TYPES.contains(type));
            Due.holds(field.getName() + ", if static, is a final int or long",
                    !constant || number && Modifier.isFinal(field.getModifiers()));
        }
    }

    /** LANGUAGE.md, rule 7. The objects go past their 512 calls: the answers are free then, but not the throwing. */
    private static void noCallThrows() {
        Due.about("LANGUAGE.md, rule 7");
        DremelStore full = new DremelStore();
        Stores.addValues(full, 60);
        Stores.addEmptyRecords(full, 8);
        askWithEveryNumber(new DremelStore());
        askWithEveryNumber(Stores.sample());
        askWithEveryNumber(full);
        DremelStore x = new DremelStore();
        for (int turn = 0; turn < 1000; turn++) {
            x.value(turn);
            x.group(true, turn);
            x.begin(true, turn);
            if (turn % 7 == 0) {
                x.end();
            }
        }
        Due.holds("1000 turns past every limit end", true);
    }

    private static void askWithEveryNumber(DremelStore x) {
        for (int rec : Stores.NEVER_THERE) {
            for (int group : Stores.NEVER_THERE) {
                for (int place : Stores.NEVER_THERE) {
                    x.valueAt(rec, group, place);
                    x.valueAt(rec & 3, group & 3, place);
                }
                x.values(rec, group);
                x.label(rec, group);
                x.recordsWith(rec, group);
            }
            x.groups(rec);
            x.hasNote(rec);
            x.sumByTag(rec);
        }
        Due.holds("every question ends", true);
    }
}
