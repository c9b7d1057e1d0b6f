import java.io.IOException;
import java.lang.management.ManagementFactory;
import java.lang.reflect.Constructor;
import java.lang.reflect.Field;
import java.lang.reflect.Method;
import java.lang.reflect.Modifier;
import java.nio.file.Files;
import java.nio.file.Path;
import java.util.Arrays;
import java.util.Set;
import java.util.TreeSet;

/** The public face as the document tells it, rule 1 of LANGUAGE.md, and that no call makes an object. */
public final class FaceTest {
    private static final String[] FACE = {"put(int,int)int", "inflow(int,int,int)int", "part(int,int,int)int",
        "month(int,int,int)int", "demand(int,int,int,int,int,int)int", "renew(int,int,int)int", "drop(int)int",
        "feed(int)int", "read()int", "told(int)int", "monthOf(int,int)int", "partOf(int,int)int", "demandOf(int,int)int",
        "taken(int,int)int", "wanted(int,int)int", "served(int,int,int,int)long", "step(int,int,int,int,int)long",
        "best(int,int,int)long", "release(int,int,int)int", "would(int,int,int,int)long", "after(int,int,int)long",
        "way(int,int,int)int", "chance(int,int)long", "worth(int,int,int,int)long", "record(int,int)int",
        "replay(int,int,int,int,int)long", "sure(int,int,int,int,int)long", "learn(int)int", "see(int,int,int,int)int",
        "fits(int)int", "plan(int,int)int", "ends(int,int)long", "book(int,int,int)int", "looked()int",
        "judge(int,int,int,int,int)int", "image()int", "undo()int", "count(int)int", "tape(int,int,int)int",
        "item(int,int,long)int", "peek(int,int)long", "shift(int,int,int,int,int)int"};

    /** What the interface says ahead of which calls. */
    private static final String[][] PARTS = {
        {"the reservoir, demands", "put inflow part month demand renew drop feed read"},
        {"what there is", "told monthOf partOf demandOf taken wanted served step"},
        {"the best", "best release would after way chance worth"},
        {"records", "record replay sure learn"},
        {"seen, plans, books", "see fits plan ends book looked"},
        {"judging, the image, tapes", "judge image undo count tape item peek shift"}};

    public static void main(String[] args) throws IOException {
        theFaceIsTheDocuments();
        constants();
        namesOfPrivateMethods();
        whatTheInterfaceSays();
        callsMakeNoObjects();
        Due.end("FaceTest");
    }

    private static void theFaceIsTheDocuments() {
        Class<?> c = ReservoirMind.class;
        Due.holds("public and final", Modifier.isPublic(c.getModifiers()) && Modifier.isFinal(c.getModifiers()));
        Due.holds("without a package", c.getPackageName().isEmpty());
        Due.holds("it is under no other class", c.getSuperclass() == Object.class && c.getInterfaces().length == 0);
        Set<String> face = new TreeSet<>();
        for (Method m : c.getDeclaredMethods()) {
            if (!Modifier.isPrivate(m.getModifiers())) {
                StringBuilder types = new StringBuilder();
                for (Class<?> type : m.getParameterTypes()) {
                    types.append(types.length() == 0 ? "" : ",").append(type.getName());
                }
                face.add(m.getName() + "(" + types + ")" + m.getReturnType().getName());
            }
        }
        Set<String> due = new TreeSet<>(Arrays.asList(FACE));
        Due.holds("methods are " + due + ", not " + face, face.equals(due));
        Constructor<?>[] made = c.getDeclaredConstructors();
        Due.holds("one public constructor", made.length == 1 && Modifier.isPublic(made[0].getModifiers())
            && made[0].getParameterCount() == 0);
        for (Class<?> inside : c.getDeclaredClasses()) {
            int bits = inside.getModifiers();
            Due.holds(inside + " is static, not public", Modifier.isStatic(bits) && !Modifier.isPublic(bits));
        }
    }

    private static void constants() {
        Due.is("NONE", ReservoirMind.NONE, -1);
        Due.is("BAD", ReservoirMind.BAD, -2);
        Due.is("STATE", ReservoirMind.STATE, -3);
        Due.is("FULL", ReservoirMind.FULL, -4);
        Due.is("NO", ReservoirMind.NO, Long.MIN_VALUE);
        Set<String> seen = new TreeSet<>();
        for (Field f : ReservoirMind.class.getDeclaredFields()) {
            if (!Modifier.isPrivate(f.getModifiers())) {
                seen.add(f.getType() + " " + f.getName());
                Due.holds(f + " is a public constant", Modifier.isPublic(f.getModifiers())
                    && Modifier.isStatic(f.getModifiers()) && Modifier.isFinal(f.getModifiers()));
            }
        }
        Due.holds("no other field is seen from outside",
            seen.equals(Set.of("int NONE", "int BAD", "int STATE", "int FULL", "long NO")));
    }

    private static void namesOfPrivateMethods() {
        Set<String> names = new TreeSet<>();
        for (String call : FACE) {
            names.add(call.substring(0, call.indexOf('(')));
        }
        for (Method m : ReservoirMind.class.getDeclaredMethods()) {
            Due.holds(m + " is private and bears a name of the face",
                !Modifier.isPrivate(m.getModifiers()) || !names.contains(m.getName()));
        }
        for (Class<?> inside : ReservoirMind.class.getDeclaredClasses()) {
            for (Method m : inside.getDeclaredMethods()) {
                Due.holds(inside + "." + m.getName() + " bears no name of the face", !names.contains(m.getName()));
            }
        }
    }

    /** The calls stand in the interface's order, each behind the line that the interface says ahead of it. */
    private static void whatTheInterfaceSays() throws IOException {
        String source = Files.readString(Path.of("src/main/java/ReservoirMind.java"));
        int at = 0;
        int calls = 0;
        for (String[] part : PARTS) {
            int line = source.indexOf("    // ---- " + part[0] + "\n", at);
            Due.holds("ahead of its calls the interface says: ---- " + part[0], line >= at);
            int next = source.indexOf("    // ---- ", line + 1);
            at = line;
            for (String call : part[1].split(" ")) {
                Due.holds(call + " is one of the face", FACE[calls].startsWith(call + "("));
                int found = source.indexOf(" " + call + "(", at);
                Due.holds(call + " stands behind ---- " + part[0], found > at && found < next);
                Due.holds(call + " stands in the interface's order",
                    source.substring(at, Math.max(at, found)).split("\n {4}public ", -1).length == 2);
                at = found;
                calls++;
            }
        }
        Due.is("all calls stand behind one of these", calls, FACE.length);
    }

    /** All calls of a run live in one room, so rows are made with the object and never later. */
    private static void callsMakeNoObjects() {
        com.sun.management.ThreadMXBean bean =
            (com.sun.management.ThreadMXBean) ManagementFactory.getThreadMXBean();
        ReservoirMind[] minds = new ReservoirMind[10];
        for (int k = 0; k < 10; k++) {
            minds[k] = new ReservoirMind();
        }
        // of several tries the least, since the machine may make objects of its own in between
        long least = Long.MAX_VALUE;
        for (int k = 0; k < 10; k++) {
            long before = bean.getCurrentThreadAllocatedBytes();
            allCalls(minds[k]);
            least = Math.min(least, bean.getCurrentThreadAllocatedBytes() - before);
        }
        Due.is("bytes that calls have made", least, 0);
    }

    private static void allCalls(ReservoirMind m) {
        m.undo();
        m.put(0, 12);
        m.put(1, 12);
        m.inflow(0, 0, 2);
        m.part(0, 0, 2);
        m.month(0, 0, 2);
        m.demand(3, 1, 4, 30, 0, 11);
        m.renew(0, 0, 2);
        for (int k = 0; k < 4; k++) {
            m.feed("c9;x".charAt(k));
        }
        m.read();
        m.feed('c');
        m.feed('9');
        m.read();
        m.told(0);
        m.monthOf(0, 5);
        m.partOf(0, 3);
        m.demandOf(0, 6);
        m.taken(0, 1);
        m.wanted(0, 0);
        m.served(0, 0, 9, 1);
        m.step(0, 5, 5, 5, 5);
        m.best(0, 5, 1);
        m.release(0, 5, 1);
        m.would(0, 5, 1, 3);
        m.after(12, 0, 0);
        m.way(0, 8, 7);
        m.chance(0, 8);
        m.worth(1, 0, 5, 1);
        m.record(0, 5);
        m.replay(0, 5, 0, 1, 1);
        m.sure(0, 5, 0, 0, 0);
        m.learn(0);
        m.see(0, 5, 1, 4);
        m.fits(0);
        m.plan(2, 2);
        m.ends(5, 1);
        m.book(0, 5, 4);
        m.looked();
        m.tape(0, 3, 60);
        m.item(0, 0, 5L);
        m.judge(0, 5, 0, 0, 0);
        m.peek(0, 0);
        m.shift(0, 0, 0, 1, 9);
        m.count(0);
        m.drop(0);
        m.image();
    }
}
