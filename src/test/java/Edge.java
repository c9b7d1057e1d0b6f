import java.util.HashMap;
import java.util.IdentityHashMap;
import java.util.Map;
import java.util.TreeSet;

/**
 * Calls at their bounds. Each call is made on objects of its own, brought into a scene anew, and what other calls tell
 * of them is held against what they tell of the scene without the call. Every check bears its place in the document.
 */
final class Edge {
    static final int MIN = Integer.MIN_VALUE, MAX = Integer.MAX_VALUE;

    interface Scene {
        void set(Mind m);
    }

    interface Ask {
        long of(Mind m);
    }

    interface IntAsk {
        long of(Mind m, int v);
    }

    private static final Map<Scene, Map<Look, Map<String, Long>>> LOOKED = new IdentityHashMap<>();

    private Edge() {
    }

    static Mind made(Scene scene) {
        Mind m = new Mind();
        scene.set(m);
        return m;
    }

    static Scene then(Scene scene, Scene more) {
        return m -> {
            scene.set(m);
            more.set(m);
        };
    }

    /** What a scene tells; scenes that are used again are looked at once. */
    static Map<String, Long> looked(Scene scene, Look look) {
        return LOOKED.computeIfAbsent(scene, s -> new HashMap<>()).computeIfAbsent(look, l -> l.of(made(scene)));
    }

    static long told(Scene scene, String words) {
        return looked(scene, Look.TOLD).get(words);
    }

    /** Of a scene each of these rows, "call=answer". */
    static void tells(String place, Scene scene, Look look, String... rows) {
        for (String row : rows) {
            String words = row.substring(0, row.indexOf('='));
            Due.is(place + ": " + words, looked(scene, look).get(words), number(row));
        }
    }

    /** The call answers so and changes nothing: neither what is asked nor what is refused does. */
    static void keeps(String place, Scene scene, Ask ask, long due) {
        for (Look look : Look.values()) {
            Mind m = made(scene);
            Due.is(place, ask.of(m), due);
            same(place + ", then " + look, look.of(m), looked(scene, look));
        }
    }

    /** Each of these numbers is refused so, and nothing has changed. */
    static void refuses(String place, Scene scene, long refusal, IntAsk ask, int... numbers) {
        for (int v : numbers) {
            keeps(place + ": " + v, scene, m -> ask.of(m, v), refusal);
        }
    }

    /** Just outside of a range, below and above, and as far outside as can be. */
    static int[] outside(int least, int most) {
        return new int[] {least - 1, most + 1, MIN, MAX};
    }

    /**
     * The call answers so; of what is told, these rows ("call=answer") are as they say and all others as they were.
     * THE IMAGE is as it was, and what is found by BEST goes by the change even if it had been found ahead of it.
     */
    static void changes(String place, Scene scene, Ask ask, long due, String... rows) {
        int found = 0;
        for (Look look : new Look[] {Look.TOLD, Look.RECORDS, Look.TAPES_0_TO_2, Look.TAPES_3_TO_5}) {
            Map<String, Long> expected = new HashMap<>(looked(scene, look));
            for (String row : rows) {
                if (expected.computeIfPresent(row.substring(0, row.indexOf('=')),
                    (words, was) -> number(row)) != null) {
                    found++;
                }
            }
            Mind m = made(scene);
            Due.is(place, ask.of(m), due);
            same(place + ", then " + look, look.of(m), expected);
        }
        Due.is(place + ": rows that are looked at, each once", found, rows.length);
        imageStands(place + ", of an image just ahead of it", then(scene, Mind::image), ask);
        if (looked(scene, Look.IMAGE).get("undo()") != ReservoirMind.STATE) {
            imageStands(place + ", of an image that there was", scene, ask);
        }
        foundAnew(place, scene, ask);
    }

    private static void imageStands(String place, Scene imaged, Ask ask) {
        for (Look look : new Look[] {Look.IMAGE, Look.IMAGE_THOUGHT}) {
            Mind m = made(imaged);
            ask.of(m);
            same(place + ", then " + look, look.of(m), looked(imaged, look));
        }
    }

    private static void foundAnew(String place, Scene scene, Ask ask) {
        Mind cold = made(scene);
        ask.of(cold);
        Mind warm = made(scene);
        warm.best(0, 0, 0);
        warm.fits(0);
        warm.looked();
        warm.ends(0, 0);
        warm.worth(1, 0, 0, 0);
        ask.of(warm);
        same(place + ", found ahead of it, then found anew", Look.THOUGHT.of(warm), Look.THOUGHT.of(cold));
    }

    static void same(String place, Map<String, Long> got, Map<String, Long> due) {
        Due.holds(place + ": what is told is " + new TreeSet<>(due.keySet()), got.keySet().equals(due.keySet()));
        for (Map.Entry<String, Long> row : got.entrySet()) {
            Due.is(place + ": " + row.getKey(), row.getValue(), due.getOrDefault(row.getKey(), 0L));
        }
    }

    private static long number(String row) {
        String number = row.substring(row.indexOf('=') + 1);
        return number.equals("NO") ? ReservoirMind.NO : Long.parseLong(number);
    }
}
