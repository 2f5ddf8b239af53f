import java.lang.management.ManagementFactory;
import java.lang.reflect.Constructor;
import java.lang.reflect.Field;
import java.lang.reflect.Method;
import java.lang.reflect.Modifier;
import java.nio.file.Files;
import java.nio.file.Path;
import java.util.Arrays;
import java.util.Set;
import java.util.TreeSet;

/** The public face, the rules of LANGUAGE.md that can be looked up, and how much the calls make. */
public final class FaceTest {
    private static final String SOURCE = "src/main/java/PanesOfTheDead.java";
    private static final Check check = new Check();

    public static void main(String[] args) throws Exception {
        face();
        members();
        source();
        objects();
        check.close();
    }

    private static void face() {
        check.about("the face");
        String due = "sign(int)int end(int)boolean square()int things()int panes()int rooms()int rule()int "
            + "thing(int,int)int pane(int,int)int room(int,int)int sheet(int,int,int,int)int hang(int,int)int takes(int)int "
            + "ball(int)int carry(int,int,int)int hours(int)int day()int undo()int ahead(int,int)int first(int,int)int "
            + "meets(int)int doubts(int,int)int watch(int)int hidden()int glaze(int,int,int)int best(int)int adds(int)int "
            + "steals(int,int,int,int)int slips(int,int,int,int)int dark(int,int)long watched(int,int,int)int forget()int "
            + "laws()int next()int fits()int claims()int balls(int,int,int)int law()int rests(int)int years(int,int)int "
            + "keep(int)boolean again(int)boolean count(int)int row(int)long";
        Set<String> want = new TreeSet<>(Arrays.asList(due.split(" ")));
        Set<String> got = new TreeSet<>();
        for (Method m : PanesOfTheDead.class.getDeclaredMethods()) {
            if (!Modifier.isPublic(m.getModifiers())) continue;
            StringBuilder b = new StringBuilder(m.getName()).append('(');
            for (Class<?> p : m.getParameterTypes()) b.append(b.toString().endsWith("(") ? "" : ",").append(p.getName());
            got.add(b.append(')').append(m.getReturnType().getName()).toString());
        }
        check.yes(want.equals(got));
        check.yes(Modifier.isFinal(PanesOfTheDead.class.getModifiers()));
        check.due(1, PanesOfTheDead.class.getConstructors().length);
        check.due(1, PanesOfTheDead.class.getFields().length);
    }

    private static void members() {
        check.about("LANGUAGE.md 1, 5, 11");
        Set<String> faceNames = new TreeSet<>();
        for (Method m : PanesOfTheDead.class.getMethods()) {
            if (m.getDeclaringClass() == PanesOfTheDead.class) faceNames.add(m.getName());
        }
        for (Method m : PanesOfTheDead.class.getDeclaredMethods()) {
            check.yes(Modifier.isPublic(m.getModifiers()) || Modifier.isPrivate(m.getModifiers()));
            if (Modifier.isPrivate(m.getModifiers())) check.no(faceNames.contains(m.getName()));
        }
        for (Field f : PanesOfTheDead.class.getDeclaredFields()) {
            check.yes(f.getName().equals("NONE") || Modifier.isPrivate(f.getModifiers()));
        }
        Class<?>[] inside = PanesOfTheDead.class.getDeclaredClasses();
        check.yes(inside.length <= 12);
        for (Class<?> c : inside) {
            check.yes(Modifier.isStatic(c.getModifiers()));
            check.no(Modifier.isPublic(c.getModifiers()) || Modifier.isProtected(c.getModifiers()));
            for (Method m : c.getDeclaredMethods()) {
                check.no(faceNames.contains(m.getName()));
                check.yes(m.getParameterCount() <= 7);
            }
            for (Constructor<?> k : c.getDeclaredConstructors()) check.yes(k.getParameterCount() <= 7);
            int fields = 0;
            for (Field f : c.getDeclaredFields()) {
                boolean isStatic = Modifier.isStatic(f.getModifiers());
                check.yes(!isStatic || Modifier.isFinal(f.getModifiers()));
                fields += isStatic ? 0 : 1;
            }
            check.yes(fields <= 20);
        }
    }

    private static void source() throws Exception {
        check.about("LANGUAGE.md 2, 4, 6, 11");
        String source = Files.readString(Path.of(SOURCE));
        String[] ruledOut = {"->", "::", "try {", "catch", "finally", "synchronized", "assert ", "static {", "java.io",
            "System.out", "System.nano", "System.current", "Random", "Thread", "Exact(", "hashCode", "toString", "package ",
            "getMessage", "double ", "float "};
        for (String word : ruledOut) {
            check.about("LANGUAGE.md: " + word);
            check.no(source.contains(word));
        }
        int begun = 0;
        String[] lines = source.split("\n");
        for (int i = 0; i < lines.length; i++) {
            boolean opens = lines[i].matches("(    |        )[a-zA-Z].*\\) (throws [A-Za-z]+ )?\\{") && !lines[i].contains(" new ");
            if (opens) begun = i;
            if (lines[i].matches("(    |        )\\}")) {
                check.about("LANGUAGE.md 11, line " + begun);
                check.yes(i - begun <= 60);
            }
        }
    }

    /** Calls make nothing: all rows stand from the constructor on. */
    private static void objects() {
        check.about("what calls make");
        com.sun.management.ThreadMXBean threads = (com.sun.management.ThreadMXBean) ManagementFactory.getThreadMXBean();
        long id = Thread.currentThread().getId();
        PanesOfTheDead x = Check.town("66", "a500r;b911s;c210u;d533l", "5b;9;4a;3cd", "022;101;449");
        for (int i = 0; i < 20; i++) everyCall(x);
        long start = threads.getThreadAllocatedBytes(id);
        for (int i = 0; i < 20; i++) everyCall(x);
        long end = threads.getThreadAllocatedBytes(id);
        check.yes(end - start < 4096);
        start = threads.getThreadAllocatedBytes(id);
        x = new PanesOfTheDead();
        end = threads.getThreadAllocatedBytes(id);
        check.yes(end - start < 8192);
        check.due(1, x.count(0));
    }

    private static void everyCall(PanesOfTheDead x) {
        for (int i = 0; i < 4; i++) x.hang(i, i % 3);
        x.ball(3);
        x.carry(0, 7, 1);
        x.hours(20);
        x.undo();
        x.keep(0);
        x.again(0);
        x.ahead(0, 99);
        x.first(0, 0);
        x.meets(1);
        x.doubts(0, 1);
        x.watch(3);
        x.hidden();
        x.glaze(2, 3, 4);
        x.best(0);
        x.adds(0);
        x.steals(0, 35, 2, 9);
        x.slips(0, 35, 2, 9);
        x.dark(0, 0);
        x.watched(0, 5, 1);
        x.laws();
        x.next();
        x.fits();
        x.forget();
        x.balls(0, 0, 3);
        x.rests(3);
        x.years(5, 60);
        x.sign(0x733C6C3B);
        x.end(3);
        x.law();
        x.sign(0x733C6C3B);
        x.end(3);
        x.rule();
        x.sign(0x613B623B);
        x.end(3);
        x.claims();
        x.sign(0x68356830);
        x.day();
        x.takes(1);
        x.sheet(0, 4, 1, 1);
        x.count(1);
    }
}
