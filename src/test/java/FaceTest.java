import java.io.IOException;
import java.lang.management.ManagementFactory;
import java.lang.reflect.Constructor;
import java.lang.reflect.Field;
import java.lang.reflect.Member;
import java.lang.reflect.Method;
import java.lang.reflect.Modifier;
import java.nio.file.Files;
import java.nio.file.Path;
import java.util.Arrays;
import java.util.Set;
import java.util.TreeSet;
import java.util.regex.Matcher;
import java.util.regex.Pattern;

/** The public face, and what of LANGUAGE.md can be read off the source or the compiled class. */
public final class FaceTest {
    private static final String[] FACE = {"put(int,int)int", "inflow(int,int,int)int", "part(int,int,int)int",
        "month(int,int,int)int", "demand(int,int,int,int,int,int)int", "renew(int,int,int)int", "drop(int)int",
        "feed(int)int", "read()int", "told(int)int", "monthOf(int,int)int", "partOf(int,int)int", "demandOf(int,int)int",
        "taken(int,int)int", "wanted(int,int)int", "served(int,int,int,int)long", "step(int,int,int,int,int)long",
        "best(int,int,int)long", "release(int,int,int)int", "would(int,int,int,int)long", "after(int,int,int)long",
        "way(int,int,int)int", "chance(int,int)long", "worth(int,int,int,int)long", "record(int,int)int",
        "replay(int,int,int,int,int)long", "sure(int,int,int,int,int)long", "learn(int)int", "see(int,int,int,int)int",
        "fits(int)int", "plan(int,int)int", "ends(int,int)long", "book(int,int,int)int", "looked()int",
        "judge(int,int,int,int,int)int", "image()int", "undo()int", "count(int)int", "tape(int,int,int)int",
        "item(int,int,long)int", "peek(int,int)long", "shift(int,int,int,int,int)int"};

    public static void main(String[] args) throws IOException {
        theFaceIsTheDocuments();
        constants();
        namesOfPrivateMethods();
        theSource();
        callsMakeNoObjects();
        Due.end("FaceTest");
    }

    private static void theFaceIsTheDocuments() {
        Class<?> c = ReservoirMind.class;
        Due.holds("public and final", Modifier.isPublic(c.getModifiers()) && Modifier.isFinal(c.getModifiers()));
        Due.holds("without a package", c.getPackageName().isEmpty());
        Set<String> face = new TreeSet<>();
        for (Method m : c.getDeclaredMethods()) {
            if (!Modifier.isPrivate(m.getModifiers())) {
                StringBuilder types = new StringBuilder();
                for (Class<?> type : m.getParameterTypes()) {
                    types.append(types.length() == 0 ? "" : ",").append(type.getName());
                }
                face.add(m.getName() + "(" + types + ")" + m.getReturnType().getName());
            }
        }
        Set<String> due = new TreeSet<>(Arrays.asList(FACE));
        Due.holds("methods are " + due + ", not " + face, face.equals(due));
        for (Constructor<?> made : c.getDeclaredConstructors()) {
            Due.holds("one public constructor", Modifier.isPublic(made.getModifiers()) && made.getParameterCount() == 0);
        }
        for (Class<?> inside : c.getDeclaredClasses()) {
            int bits = inside.getModifiers();
            Due.holds(inside + " is static, not public", Modifier.isStatic(bits) && !Modifier.isPublic(bits));
        }
        Due.holds("some twelve classes at most", c.getDeclaredClasses().length + 1 <= 12);
    }

    private static void constants() {
        Due.is("NONE", ReservoirMind.NONE, -1);
        Due.is("BAD", ReservoirMind.BAD, -2);
        Due.is("STATE", ReservoirMind.STATE, -3);
        Due.is("FULL", ReservoirMind.FULL, -4);
        Due.is("NO", ReservoirMind.NO, Long.MIN_VALUE);
        Set<String> seen = new TreeSet<>();
        for (Field f : ReservoirMind.class.getDeclaredFields()) {
            if (!Modifier.isPrivate(f.getModifiers())) {
                seen.add(f.getName());
            }
            Due.holds(f + ": what is static is final",
                !Modifier.isStatic(f.getModifiers()) || Modifier.isFinal(f.getModifiers()));
        }
        Due.holds("no other field is seen from outside", seen.equals(Set.of("NONE", "BAD", "STATE", "FULL", "NO")));
    }

    private static void namesOfPrivateMethods() {
        Set<String> names = new TreeSet<>();
        for (String call : FACE) {
            names.add(call.substring(0, call.indexOf('(')));
        }
        for (Method m : ReservoirMind.class.getDeclaredMethods()) {
            look(m, names);
        }
        for (Class<?> inside : ReservoirMind.class.getDeclaredClasses()) {
            int fields = 0;
            for (Method m : inside.getDeclaredMethods()) {
                Due.holds(inside + "." + m.getName() + " bears no name of the face", !names.contains(m.getName()));
                look(m, names);
            }
            for (Field f : inside.getDeclaredFields()) {
                fields += Modifier.isStatic(f.getModifiers()) ? 0 : 1;
            }
            Due.holds(inside + " has some twenty fields at most", fields <= 20);
        }
    }

    private static void look(Method m, Set<String> names) {
        boolean isPrivate = Modifier.isPrivate(((Member) m).getModifiers());
        Due.holds(m + " is private and bears a name of the face", !isPrivate || !names.contains(m.getName()));
        Due.holds(m + " takes at most seven", m.getParameterCount() <= 7);
    }

    private static void theSource() throws IOException {
        String source = Files.readString(Path.of("src/main/java/ReservoirMind.java"));
        String code = source.replaceAll("(?s)/\\*.*?\\*/", "").replaceAll("//[^\n]*", "");
        String[] ruledOut = {"\\bimport\\b", "\\bpackage\\b", "\\btry\\b", "\\bcatch\\b", "\\bfinally\\b", "\\bthrow\\b",
            "\\bsynchronized\\b", "\\bassert\\b", "->", "::", "\\bFloat\\b", "\\bDouble\\b", "Exact\\b", "\\bvar\\b",
            "\\bnull\\b", "\\bdouble\\b", "\\bSystem\\.(?!arraycopy)", "\\bMath\\.(?!min|max|abs)\\w+"};
        for (String word : ruledOut) {
            Due.holds(word + " is not in the code", !Pattern.compile(word).matcher(code).find());
        }
        Due.holds("signs 1 to 127 alone", source.chars().allMatch(c -> c > 0 && c < 128));
        Matcher method = Pattern.compile("(?m)^( {4}| {8})(?! )[^=;\n]*\\)\\s*\\{\n((?s).*?)\n\\1\\}").matcher(code);
        int methods = 0;
        while (method.find()) {
            methods++;
            long lines = method.group(2).lines().count();
            Due.holds("a method of " + lines + " lines: " + method.group().lines().findFirst().get(), lines <= 60);
        }
        Due.holds("methods were looked at", methods > 80);
    }

    /** All calls of a run live in one room, so rows are made with the object and never later. */
    private static void callsMakeNoObjects() {
        com.sun.management.ThreadMXBean bean =
            (com.sun.management.ThreadMXBean) ManagementFactory.getThreadMXBean();
        ReservoirMind[] minds = new ReservoirMind[10];
        for (int k = 0; k < 10; k++) {
            minds[k] = new ReservoirMind();
        }
        // of several tries the least, since the machine may make objects of its own in between
        long least = Long.MAX_VALUE;
        for (int k = 0; k < 10; k++) {
            long before = bean.getCurrentThreadAllocatedBytes();
            allCalls(minds[k]);
            least = Math.min(least, bean.getCurrentThreadAllocatedBytes() - before);
        }
        Due.is("bytes that calls have made", least, 0);
    }

    private static void allCalls(ReservoirMind m) {
        m.undo();
        m.put(0, 12);
        m.put(1, 12);
        m.inflow(0, 0, 2);
        m.part(0, 0, 2);
        m.month(0, 0, 2);
        m.demand(3, 1, 4, 30, 0, 11);
        m.renew(0, 0, 2);
        for (int k = 0; k < 4; k++) {
            m.feed("c9;x".charAt(k));
        }
        m.read();
        m.feed('c');
        m.feed('9');
        m.read();
        m.told(0);
        m.monthOf(0, 5);
        m.partOf(0, 3);
        m.demandOf(0, 6);
        m.taken(0, 1);
        m.wanted(0, 0);
        m.served(0, 0, 9, 1);
        m.step(0, 5, 5, 5, 5);
        m.best(0, 5, 1);
        m.release(0, 5, 1);
        m.would(0, 5, 1, 3);
        m.after(12, 0, 0);
        m.way(0, 8, 7);
        m.chance(0, 8);
        m.worth(1, 0, 5, 1);
        m.record(0, 5);
        m.replay(0, 5, 0, 1, 1);
        m.sure(0, 5, 0, 0, 0);
        m.learn(0);
        m.see(0, 5, 1, 4);
        m.fits(0);
        m.plan(2, 2);
        m.ends(5, 1);
        m.book(0, 5, 4);
        m.looked();
        m.tape(0, 3, 60);
        m.item(0, 0, 5L);
        m.judge(0, 5, 0, 0, 0);
        m.peek(0, 0);
        m.shift(0, 0, 0, 1, 9);
        m.count(0);
        m.drop(0);
        m.image();
    }
}
