import java.io.IOException;
import java.lang.reflect.Constructor;
import java.lang.reflect.Field;
import java.lang.reflect.Method;
import java.lang.reflect.Modifier;
import java.nio.file.Files;
import java.nio.file.Path;
import java.util.ArrayList;
import java.util.List;
import java.util.Set;
import java.util.TreeSet;
import java.util.regex.Matcher;
import java.util.regex.Pattern;

/** The public face, and those rules of LANGUAGE.md that can be seen by a look at members and words. */
public final class FaceTest {
    private static final String FACE = "int cell(int,int,int);int cellOf(int,int);int tell(int,int);int where(int);int now(int);"
        + "int mole(int,int,int);int of(int,int);int charges(int,int);int set(int,int,int);int turn(int,int);int as(int,int);"
        + "int minutes(int);int on(int,int,int);int then(int,int);int out(int);int dug(int);int comes(int,int);"
        + "int kind(int,int);int lead(int,int);int dig(int);int leave(int);int dismiss(int);int richest(int);"
        + "int feed(int,int);int wipe();int shire();int sheet(int,int,int);long write(int,int,long);"
        + "int copy(int,int,int,int,int);int lays(int);int book(int,int);int read(int,int);"
        + "int image();int undo();int tear();int count(int);int status(int)";
    private static final Checks c = new Checks("FaceTest");

    public static void main(String[] args) throws IOException {
        face();
        faceOfTheDocument();
        members();
        classesInside();
        words();
        c.end();
    }

    private static String told(Method m) {
        StringBuilder all = new StringBuilder(m.getReturnType().getName()).append(' ').append(m.getName()).append('(');
        for (int i = 0; i < m.getParameterCount(); i++) {
            all.append(i == 0 ? "" : ",").append(m.getParameterTypes()[i].getName());
        }
        return all.append(')').toString();
    }

    private static void face() {
        int is = MoleSecrets.class.getModifiers();
        c.due("public final", Modifier.isPublic(is) && Modifier.isFinal(is) ? 1 : 0, 1);
        Set<String> due = new TreeSet<>(List.of(FACE.split(";")));
        Set<String> are = new TreeSet<>();
        for (Method m : MoleSecrets.class.getDeclaredMethods()) {
            if (!Modifier.isPrivate(m.getModifiers())) {
                are.add(told(m));
                c.due(m.getName() + " is public and no more", m.getModifiers(), Modifier.PUBLIC);
            }
        }
        c.same("the face", are.toString(), due.toString());
        Constructor<?>[] makers = MoleSecrets.class.getDeclaredConstructors();
        c.due("constructors", makers.length, 1);
        c.due("its parameters", makers[0].getParameterCount(), 0);
        c.due("it is public", makers[0].getModifiers(), Modifier.PUBLIC);
    }

    /** What stands here as the face is what the document says, so that neither is changed alone. */
    private static void faceOfTheDocument() throws IOException {
        Path doc = Path.of("../shared/DOC.md");
        if (!Files.isReadable(doc)) {
            return;
        }
        Set<String> told = new TreeSet<>();
        Matcher lines = Pattern.compile("(?m)^    public (\\w+ \\w+)\\((.*)\\);$").matcher(Files.readString(doc));
        while (lines.find()) {
            told.add(lines.group(1) + "(" + lines.group(2).replaceAll(" \\w+(?=,|$)", "").replace(" ", "") + ")");
        }
        c.same("the document's face", told.toString(), new TreeSet<>(List.of(FACE.split(";"))).toString());
    }

    private static void members() {
        for (Field f : MoleSecrets.class.getDeclaredFields()) {
            c.due(f.getName() + " is private", Modifier.isPrivate(f.getModifiers()) ? 1 : 0, 1);
        }
        List<Class<?>> all = new ArrayList<>(List.of(MoleSecrets.class.getDeclaredClasses()));
        all.add(MoleSecrets.class);
        c.due("some twelve classes", all.size() <= 12 ? 1 : 0, 1);
        for (Class<?> one : all) {
            int own = 0;
            for (Field f : one.getDeclaredFields()) {
                boolean isStatic = Modifier.isStatic(f.getModifiers());
                own += isStatic ? 0 : 1;
                c.due(f.getName() + ", if static, is final", !isStatic || Modifier.isFinal(f.getModifiers()) ? 1 : 0, 1);
            }
            c.due("some twenty fields of " + one.getName(), own <= 20 ? 1 : 0, 1);
        }
    }

    private static void classesInside() {
        Set<String> names = new TreeSet<>();
        for (Method m : MoleSecrets.class.getDeclaredMethods()) {
            if (Modifier.isPublic(m.getModifiers())) {
                names.add(m.getName());
            } else {
                c.due(m.getName() + " takes at most seven", m.getParameterCount() <= 7 ? 1 : 0, 1);
            }
        }
        for (Method m : MoleSecrets.class.getDeclaredMethods()) {
            boolean clash = !Modifier.isPublic(m.getModifiers()) && names.contains(m.getName());
            c.due(m.getName() + " bears a public name", clash ? 1 : 0, 0);
        }
        for (Class<?> inside : MoleSecrets.class.getDeclaredClasses()) {
            int is = inside.getModifiers();
            c.due(inside.getName() + " is static", Modifier.isStatic(is) ? 1 : 0, 1);
            c.due(inside.getName() + " is hidden", Modifier.isPublic(is) || Modifier.isProtected(is) ? 1 : 0, 0);
            for (Method m : inside.getDeclaredMethods()) {
                c.due(inside.getName() + "." + m.getName() + " bears a public name", names.contains(m.getName()) ? 1 : 0, 0);
            }
        }
    }

    private static void words() throws IOException {
        String text = Files.readString(Path.of("src/main/java/MoleSecrets.java"));
        String code = text.replaceAll("(?s)/\\*.*?\\*/", " ").replaceAll("//[^\n]*", " ").replaceAll("\"[^\"\n]*\"", "\"\"");
        Matcher wrong = Pattern.compile("\\b(throw|throws|try|catch|finally|synchronized|assert|package|double|float|Object)\\b"
            + "|\\w+Exact\\b|->|::|\\bSystem\\.(?!arraycopy\\b)|\\[\\]\\s*\\[\\]\\s*\\[\\]").matcher(code);
        while (wrong.find()) {
            c.due("'" + wrong.group() + "' in the program", 1, 0);
        }
        Matcher imports = Pattern.compile("\\bimport\\s+([\\w.*]+)").matcher(code);
        while (imports.find()) {
            boolean listed = List.of("java.util.Arrays", "java.util.ArrayList", "java.util.List").contains(imports.group(1));
            c.due("import " + imports.group(1) + " is listed", listed ? 1 : 0, 1);
        }
        for (int i = 0; i < text.length(); i++) {
            if (text.charAt(i) > 126) {
                c.due("a sign above 126 at " + i, 1, 0);
            }
        }
    }
}
