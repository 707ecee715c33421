import java.lang.reflect.Constructor;
import java.lang.reflect.Field;
import java.lang.reflect.Method;
import java.lang.reflect.Modifier;
import java.util.Set;
import java.util.TreeSet;

/** The members that are not private are those of the document's public face, and no others. */
public final class ChainUndoFace {
    private static final String[] FACE = {
        "public final class ChainUndo",
        "public static final int ChainUndo.BAD = -1",
        "public static final int ChainUndo.FULL = -2",
        "public static final int ChainUndo.UNSOUND = -3",
        "public static final int ChainUndo.NONE = -4",
        "public ChainUndo()",
        "public int ChainUndo.mint(int,int,int)",
        "public int ChainUndo.pay(int,int,int,int)",
        "public int ChainUndo.blocks()",
        "public int ChainUndo.tip()",
        "public int ChainUndo.height(int)",
        "public boolean ChainUndo.unspent(int)",
        "public int ChainUndo.amount(int)",
        "public long ChainUndo.balance(int)",
        "public int ChainUndo.coins()",
        "public int ChainUndo.meeting(int,int)",
        "public int ChainUndo.undone()",
        "public int ChainUndo.fewestFor(int,int)",
        "public int ChainUndo.forget(int)",
    };

    private static Set<String> shown() throws IllegalAccessException {
        Set<String> shown = new TreeSet<>();
        shown.add(ChainUndo.class.toGenericString());
        for (Field field : ChainUndo.class.getDeclaredFields()) {
            if (!Modifier.isPrivate(field.getModifiers())) {
                boolean isConstant = Modifier.isStatic(field.getModifiers());
                shown.add(field.toGenericString() + (isConstant ? " = " + field.get(null) : ""));
            }
        }
        for (Constructor<?> constructor : ChainUndo.class.getDeclaredConstructors()) {
            shown.add(constructor.toGenericString());
        }
        for (Method method : ChainUndo.class.getDeclaredMethods()) {
            if (!Modifier.isPrivate(method.getModifiers())) {
                shown.add(method.toGenericString());
            }
        }
        return shown;
    }

    public static void main(String[] args) throws IllegalAccessException {
        Set<String> missing = new TreeSet<>(Set.of(FACE));
        Set<String> added = shown();
        missing.removeAll(shown());
        added.removeAll(Set.of(FACE));
        missing.forEach(member -> System.out.println("missing: " + member));
        added.forEach(member -> System.out.println("not in the document: " + member));
        if (!missing.isEmpty() || !added.isEmpty()) {
            System.exit(1);
        }
        System.out.println("the public face is as due");
    }
}
