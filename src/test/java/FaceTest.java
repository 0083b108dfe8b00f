import java.lang.reflect.Constructor;
import java.lang.reflect.Field;
import java.lang.reflect.Method;
import java.lang.reflect.Modifier;
import java.util.Set;
import java.util.TreeSet;

/** The class shows the document's public face and nothing more (rules 1, 2 and 5 of LANGUAGE.md). */
public final class FaceTest {
    private static final Set<String> FACE = Set.of(
        "public static final int BAD",
        "public static final int FULL",
        "public static final int NONE",
        "public CellUnion()",
        "public int CellUnion.change(int,int,boolean)",
        "public int CellUnion.combine(int,int,int,int)",
        "public boolean CellUnion.has(int,int,int)",
        "public int CellUnion.cells(int)",
        "public int CellUnion.stretches(int)",
        "public int CellUnion.pieces(int)",
        "public int CellUnion.piece(int,int)",
        "public int CellUnion.number(int,int)",
        "public int CellUnion.place(int)",
        "public int CellUnion.nth(int,int)",
        "public int CellUnion.touched(int,int)");

    public static void main(String[] args) {
        Set<String> seen = new TreeSet<>();
        Set<String> shown = new TreeSet<>();
        for (Method m : CellUnion.class.getDeclaredMethods()) {
            if (!Modifier.isPrivate(m.getModifiers())) {
                seen.add(m.toString());
                shown.add(m.getName());
            }
        }
        for (Method m : CellUnion.class.getDeclaredMethods()) {
            boolean hidden = Modifier.isPrivate(m.getModifiers());
            Due.is("a private method named " + m.getName(), hidden && shown.contains(m.getName()), false);
        }
        for (Constructor<?> c : CellUnion.class.getDeclaredConstructors()) {
            seen.add(c.toString());
        }
        for (Field f : CellUnion.class.getDeclaredFields()) {
            if (!Modifier.isPrivate(f.getModifiers())) {
                String words = Modifier.toString(f.getModifiers());
                seen.add(words + " " + f.getType() + " " + f.getName());
            }
            boolean array = f.getType().isArray();
            Due.is("a static array " + f.getName(), array && Modifier.isStatic(f.getModifiers()), false);
        }
        for (String member : FACE) {
            Due.is("has " + member, seen.contains(member), true);
        }
        for (String member : seen) {
            Due.is("may have " + member, FACE.contains(member), true);
        }
        int words = CellUnion.class.getModifiers();
        Due.is("public and final", Modifier.isPublic(words) && Modifier.isFinal(words), true);
        Due.is("nested classes", CellUnion.class.getDeclaredClasses().length, 0);
        Due.end();
    }
}
