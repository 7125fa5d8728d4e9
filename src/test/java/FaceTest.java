import java.lang.reflect.Constructor;
import java.lang.reflect.Field;
import java.lang.reflect.Method;
import java.lang.reflect.Modifier;
import java.util.Set;
import java.util.TreeSet;

/** The public face, and that no call ever throws, whatever its arguments and however full the object. */
public final class FaceTest {
    private static final int[] NUMBERS = {
        Integer.MIN_VALUE, Integer.MIN_VALUE + 1, -49, -2, -1, 0, 1, 2, 3, 47, 48, 49,
        Integer.MAX_VALUE - 1, Integer.MAX_VALUE
    };

    public static void main(String[] args) {
        onlyTheDocumentsMembersAreVisible();
        noArgumentsThrow(new TextReplica());
        noArgumentsThrow(full());
        Check.end();
    }

    private static void onlyTheDocumentsMembersAreVisible() {
        Set<String> visible = new TreeSet<>();
        for (Method method : TextReplica.class.getDeclaredMethods()) {
            if (!Modifier.isPrivate(method.getModifiers())) {
                visible.add(method.toString());
            }
        }
        for (Field field : TextReplica.class.getDeclaredFields()) {
            if (!Modifier.isPrivate(field.getModifiers())) {
                visible.add(field.toString());
            }
        }
        for (Constructor<?> constructor : TextReplica.class.getDeclaredConstructors()) {
            visible.add(constructor.toString());
        }
        Set<String> want = new TreeSet<>();
        want.add("public TextReplica()");
        for (String method : new String[] {
            "insert(int,int,int)", "delete(int,int)", "deliver(int,int)", "sync(int,int)", "length(int)",
            "letter(int,int)", "row(int)", "known(int,int)", "alike(int,int)"
        }) {
            want.add("public int TextReplica." + method);
        }
        Check.due("the visible members", visible.toString(), want.toString());
        Check.due("the class's modifiers", Modifier.toString(TextReplica.class.getModifiers()), "public final");
    }

    private static TextReplica full() {
        TextReplica x = new TextReplica();
        for (int i = 0; i < 40; i++) {
            x.insert(i % 3, 0, i);
            x.sync(i % 3, (i + 1) % 3);
        }
        for (int i = 0; i < 8; i++) {
            x.delete(i % 3, i);
        }
        return x;
    }

    private static void noArgumentsThrow(TextReplica x) {
        for (int a : NUMBERS) {
            x.length(a);
            x.row(a);
            for (int b : NUMBERS) {
                x.insert(a, b, a);
                x.letter(a, b);
                x.known(a, b);
                x.alike(a, b);
                x.deliver(a, b);
                x.sync(a, b);
                x.delete(a, b);
            }
        }
    }
}
