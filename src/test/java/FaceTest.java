import java.io.IOException;
import java.lang.management.ManagementFactory;
import java.lang.reflect.Field;
import java.lang.reflect.Member;
import java.lang.reflect.Method;
import java.lang.reflect.Modifier;
import java.nio.file.Files;
import java.nio.file.Path;
import java.util.Arrays;
import java.util.Set;
import java.util.TreeSet;
import java.util.regex.Matcher;
import java.util.regex.Pattern;

/** The public face, the rules of ../shared/LANGUAGE.md that can be looked up, and what calls make. */
public final class FaceTest {
    private static final Check CHECK = new Check("FaceTest");
    private static final String FACE = """
        int pass(int)
        int thing()
        int book(int,int)
        int trust(int,int)
        int on(int,int,int,int)
        int apart(int,int,int,int,int)
        int read(int)
        int takeBack(int)
        int about(int,int)
        int asOf(int)
        int can(long)
        int all()
        int span(int,int)
        int clock(int,int)
        int between(int,int,int)
        int led(int,int)
        int changed(int,int)
        int fits(int)
        int room(int,int)
        int kin(int,int,int)
        long hangs(int)
        long doubts()
        int blamed(int)
        int ahead(int,int)
        long orders()
        long share(int,int,int)
        long first(int)
        int question()
        int dayOf(int,int,int,int)
        int dateOf(int,int,int)
        int type(int)
        int wipe()
        int fault()
        int said(int,int)
        int sheet(int,int,int)
        int lose(int)
        int put(int,int,int,int)
        int get(int,int,int)
        int copy(int,int,int,int,int)
        int write(int)
        int count(int)
        long digest()
        """;

    public static void main(String[] args) throws IOException {
        face();
        names();
        classes();
        source();
        madeByCalls();
        CHECK.end();
    }

    private static void due(String what, long got, long want) {
        CHECK.due(what, got, want);
    }

    private static void isTrue(String what, boolean is) {
        CHECK.due(what, is ? 1 : 0, 1);
    }

    private static String signature(Method m) {
        StringBuilder s = new StringBuilder(m.getReturnType() + " " + m.getName() + "(");
        for (Class<?> p : m.getParameterTypes()) s.append(s.charAt(s.length() - 1) == '(' ? "" : ",").append(p);
        return s.append(")").toString();
    }

    private static void face() {
        Class<?> c = WhenItWas.class;
        due("the class is public and final", c.getModifiers(), Modifier.PUBLIC | Modifier.FINAL);
        Set<String> want = new TreeSet<>(Arrays.asList(FACE.strip().split("\\s*\n\\s*")));
        due("methods of the face", want.size(), 42);
        Set<String> got = new TreeSet<>();
        for (Method m : c.getDeclaredMethods()) {
            if (Modifier.isPublic(m.getModifiers())) got.add(signature(m));
            else isTrue(m + " is private", Modifier.isPrivate(m.getModifiers()));
        }
        isTrue("the face is " + got, got.equals(want));
        due("constructors", c.getDeclaredConstructors().length, 1);
        due("the constructor", c.getDeclaredConstructors()[0].getModifiers(), Modifier.PUBLIC);
        int constants = 0;
        for (Field f : c.getDeclaredFields()) {
            if (Modifier.isPublic(f.getModifiers())) constants++;
            else isTrue(f + " is private", Modifier.isPrivate(f.getModifiers()));
            if (Modifier.isStatic(f.getModifiers())) isTrue(f + " is final", Modifier.isFinal(f.getModifiers()));
        }
        due("public constants", constants, 4);
        due("NONE", WhenItWas.NONE, -1);
        due("BAD", WhenItWas.BAD, -2);
        due("NOT", WhenItWas.NOT, -3);
        due("FULL", WhenItWas.FULL, -4);
    }

    private static void names() {
        Set<String> open = new TreeSet<>();
        for (Method m : WhenItWas.class.getDeclaredMethods()) {
            if (Modifier.isPublic(m.getModifiers())) open.add(m.getName());
        }
        for (Method m : WhenItWas.class.getDeclaredMethods()) {
            if (!Modifier.isPublic(m.getModifiers())) isTrue(m + " has a name of its own", !open.contains(m.getName()));
        }
        for (Class<?> inside : WhenItWas.class.getDeclaredClasses()) {
            for (Method m : inside.getDeclaredMethods()) isTrue(m + " has a name of its own", !open.contains(m.getName()));
        }
    }

    private static void classes() {
        Class<?>[] inside = WhenItWas.class.getDeclaredClasses();
        isTrue("at most twelve classes", inside.length <= 11);
        for (Class<?> c : inside) {
            isTrue(c + " is static", Modifier.isStatic(c.getModifiers()));
            isTrue(c + " is not public", !Modifier.isPublic(c.getModifiers()) && !Modifier.isProtected(c.getModifiers()));
            long fields = Arrays.stream(c.getDeclaredFields()).map(Member::getModifiers).filter(m -> !Modifier.isStatic(m)).count();
            isTrue(c + " has at most twenty fields", fields <= 20);
            for (Method m : c.getDeclaredMethods()) isTrue(m + " takes at most seven", m.getParameterCount() <= 7);
        }
    }

    private static void source() throws IOException {
        String text = Files.readString(Path.of("src/main/java/WhenItWas.java"));
        String code = text.replaceAll("(?s)/\\*.*?\\*/", "").replaceAll("//[^\n]*", "");
        String[] ruledOut = {"throw", "throws", "try", "catch", "finally", "synchronized", "assert", "package", "protected",
            "native", "volatile", "transient", "strictfp", "System\\.(?!arraycopy)\\w+", "\\w+Exact", "random", "Thread",
            "\\[\\]\\[\\]\\[\\]", "->", "::", "hashCode", "toString", "Object", "var"};
        for (String word : ruledOut) {
            Matcher m = Pattern.compile("(?<!\\w)" + word + "(?!\\w)").matcher(code);
            isTrue(word + " is not used", !m.find());
        }
        Matcher imports = Pattern.compile("import [^;]+;").matcher(code);
        while (imports.find()) due(imports.group(), imports.group().equals("import java.util.Arrays;") ? 1 : 0, 1);
        methodsAreShort(text);
    }

    private static void methodsAreShort(String text) {
        int start = -1;
        int indent = 0;
        String[] lines = text.split("\n");
        for (int i = 0; i < lines.length; i++) {
            Matcher opens = Pattern.compile("^( +)[\\w\\[\\] ]+\\(.*\\) \\{$").matcher(lines[i]);
            if (start < 0 && opens.find() && opens.group(1).length() <= 8) {
                start = i;
                indent = opens.group(1).length();
            } else if (start >= 0 && lines[i].equals(" ".repeat(indent) + "}")) {
                isTrue("line " + (start + 1) + ": a method of at most sixty lines", i - start < 60);
                start = -1;
            }
        }
    }

    /** All that calls need is made with the object: the room that a run has is small. */
    private static void madeByCalls() {
        com.sun.management.ThreadMXBean bean = (com.sun.management.ThreadMXBean) ManagementFactory.getThreadMXBean();
        long id = Thread.currentThread().getId();
        useAll(new WhenItWas());
        bean.getThreadAllocatedBytes(id);
        long before = bean.getThreadAllocatedBytes(id);
        WhenItWas x = new WhenItWas();
        long made = bean.getThreadAllocatedBytes(id);
        useAll(x);
        long after = bean.getThreadAllocatedBytes(id);
        isTrue("a new object takes " + (made - before) + " bytes", made - before < 60000);
        isTrue("calls make " + (after - made) + " bytes", after - made < 1000);
    }

    private static void useAll(WhenItWas x) {
        for (int i = 0; i < 12; i++) x.thing();
        for (int i = 0; i < 6; i++) x.book(-i, i);
        for (int i = 0; i < 6; i++) x.on(i, i, 10 * i, 10 * i);
        for (int i = 0; i < 5; i++) x.apart(i, i + 6, i, 5, 5);
        x.sheet(0, 2, 20);
        x.write(0);
        x.copy(0, 0, 0, 1, 9);
        x.put(0, 2, 0, x.get(0, 2, 1));
        x.fits(0);
        x.room(0, 0);
        x.read(0);
        for (int i = 0; i < 8; i++) x.type("1.3.200a".charAt(i));
        x.said(0, 11);
        x.pass(3);
        for (int i = 0; i < 12; i++) {
            x.span(i, 0);
            x.between(i, 1, 1);
            x.led(i, 1);
            x.changed(i, 0);
            x.hangs(i);
            x.first(i);
            x.share(i, 2, 0);
        }
        x.kin(0, 1, 2);
        x.clock(0, 0);
        x.question();
        x.dateOf(0, 5, 0);
        x.digest();
        x.takeBack(0);
        x.on(3, 3, 0, 0);
        x.doubts();
        x.blamed(3);
        x.wipe();
        x.lose(0);
        x.digest();
    }
}
