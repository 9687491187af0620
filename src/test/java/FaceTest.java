import java.lang.reflect.Constructor;
import java.lang.reflect.Field;
import java.lang.reflect.Method;
import java.lang.reflect.Modifier;
import java.util.Set;
import java.util.TreeSet;

/** The public face: every constant, constructor and method of the document, with its exceptions, and no other. */
public final class FaceTest extends Checks {
    private static final String NO_SUCH = " throws java.util.NoSuchElementException";
    private static final String ILLEGAL = " throws java.lang.IllegalArgumentException";
    private static final String BOTH = NO_SUCH + ",java.lang.IllegalArgumentException";

    private static final String[] METHODS = {
        "public int feed(int,int,int,int,int)",
        "public int election(int)" + ILLEGAL,
        "public int fault()",
        "public int count(int)" + NO_SUCH,
        "public int project(int,int)" + NO_SUCH,
        "public int vote(int,int,boolean)" + NO_SUCH,
        "public int outcome(int,int)" + NO_SUCH,
        "public int chosen(int,int)" + NO_SUCH,
        "public int served(int,int)" + NO_SUCH,
        "public int paid(int,int,int)" + NO_SUCH,
        "public int left(int,int)" + NO_SUCH,
        "public int step(int,int)" + NO_SUCH,
        "public int price(int,int)" + NO_SUCH,
        "public int group(int,int)" + NO_SUCH,
        "public boolean isServed(int,int,boolean)" + NO_SUCH,
        "public int groups(int,int)" + NO_SUCH,
        "public int away(int,int)" + NO_SUCH,
        "public int with(int,int)" + BOTH,
        "public int voting(int,int,int,int)" + BOTH,
        "public int ride(int,int,int)" + NO_SUCH,
        "public int push(int,int)" + NO_SUCH,
        "public int discount(int,int)" + NO_SUCH,
        "public int budget(int)" + ILLEGAL,
        "public int cost(int,int)" + BOTH,
        "public int score(int,int,int)" + BOTH,
        "public int go(boolean,int)" + NO_SUCH,
        "public int undo()",
        "public void image()",
        "public boolean back()",
    };

    public static void main(String[] args) {
        theClass();
        methods();
        fields();
        finish("the face is the document's");
    }

    private static void theClass() {
        says("public final class SharedPurse");
        due("modifiers", SharedPurse.class.getModifiers(), Modifier.PUBLIC | Modifier.FINAL);
        yes("no package", SharedPurse.class.getPackageName().isEmpty());
        yes("no class above it", SharedPurse.class.getSuperclass() == Object.class);
        due("interfaces", SharedPurse.class.getInterfaces().length, 0);
        says("public SharedPurse()");
        Constructor<?>[] made = SharedPurse.class.getDeclaredConstructors();
        due("constructors", made.length, 1);
        due("what a constructor is given", made[0].getParameterCount(), 0);
        due("modifiers of a constructor", made[0].getModifiers(), Modifier.PUBLIC);
    }

    private static void methods() {
        Set<String> missing = new TreeSet<>(Set.of(METHODS));
        for (Method m : SharedPurse.class.getDeclaredMethods()) {
            if (!Modifier.isPrivate(m.getModifiers()) && !m.isSynthetic()) {
                String told = m.toGenericString().replace("SharedPurse.", "");
                says(told);
                yes("stands in the document", missing.remove(told));
            }
        }
        says("The public face");
        due("methods that are missing: " + missing, missing.size(), 0);
    }

    private static void fields() {
        says("public static final int NONE = -1");
        due("NONE", SharedPurse.NONE, -1);
        for (Field f : SharedPurse.class.getDeclaredFields()) {
            boolean isNone = f.getName().equals("NONE");
            int due = Modifier.PUBLIC | Modifier.STATIC | Modifier.FINAL;
            yes("no other than private: " + f, isNone ? f.getModifiers() == due && f.getType() == int.class
                    : Modifier.isPrivate(f.getModifiers()) || f.isSynthetic());
        }
    }
}
