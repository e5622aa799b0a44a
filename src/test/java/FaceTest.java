import java.lang.reflect.Constructor;
import java.lang.reflect.Field;
import java.lang.reflect.Method;
import java.lang.reflect.Modifier;
import java.util.Arrays;
import java.util.TreeSet;

/** The class shows the face of the document, and nothing beside it. */
public final class FaceTest {
    private static final String FACE = "public int LabelPeople.about(int)\n"
            + "public int LabelPeople.abstains(int)\n"
            + "public int LabelPeople.bound(int)\n"
            + "public int LabelPeople.decided(int)\n"
            + "public int LabelPeople.expert(int,boolean)\n"
            + "public int LabelPeople.gold(int,int)\n"
            + "public int LabelPeople.label(int,int,int)\n"
            + "public int LabelPeople.learn(int)\n"
            + "public int LabelPeople.next(int)\n"
            + "public int LabelPeople.person(int,int)\n"
            + "public int LabelPeople.row(int,int,int,int)\n"
            + "public int LabelPeople.rule(int,int,int,int)\n"
            + "public int LabelPeople.said(int,int)\n"
            + "public int LabelPeople.says(int,int) throws java.lang.IllegalArgumentException,"
            + "java.lang.ArithmeticException,java.lang.ArrayIndexOutOfBoundsException\n"
            + "public int LabelPeople.table(int,int)\n"
            + "public int LabelPeople.turn(int,boolean)\n"
            + "public int LabelPeople.votes(int,int)\n"
            + "public long LabelPeople.agree(int,int,int) throws java.lang.IllegalArgumentException,"
            + "java.lang.ArithmeticException\n"
            + "public long LabelPeople.all(int) throws java.lang.IllegalArgumentException,"
            + "java.lang.ArithmeticException";

    public static void main(String[] args) throws IllegalAccessException {
        Check check = new Check();
        check.dueText("the class", Modifier.toString(LabelPeople.class.getModifiers()), "public final");
        check.dueText("the methods", methods(), FACE);
        check.dueText("the constructors", constructors(), "[public LabelPeople()]");
        check.dueText("the constants", constants(), "[NONE=-1, OUTSIDE=-102, ROOM=-104, UNKNOWN=-101]");
        check.end();
    }

    private static String methods() {
        TreeSet<String> texts = new TreeSet<>();
        for (Method method : LabelPeople.class.getDeclaredMethods()) {
            if (!Modifier.isPrivate(method.getModifiers())) {
                texts.add(method.toString());
            }
        }
        return String.join("\n", texts);
    }

    private static String constructors() {
        Constructor<?>[] all = LabelPeople.class.getDeclaredConstructors();
        return Arrays.toString(all);
    }

    private static String constants() throws IllegalAccessException {
        TreeSet<String> texts = new TreeSet<>();
        for (Field field : LabelPeople.class.getDeclaredFields()) {
            if (!Modifier.isPrivate(field.getModifiers())) {
                boolean constant = Modifier.toString(field.getModifiers()).equals("public static final");
                texts.add(field.getName() + (constant ? "=" + field.getInt(null) : " is no constant"));
            }
        }
        return texts.toString();
    }
}
