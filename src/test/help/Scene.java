import java.lang.reflect.InvocationTargetException;
import java.lang.reflect.Method;
import java.util.ArrayList;
import java.util.HashMap;
import java.util.List;
import java.util.Map;

/** A run of calls on a new object, told as names and numbers, so that it can be made again and again. */
final class Scene {

    static final Scene EMPTY = new Scene(List.of(), List.of());

    private static final Map<String, Method> FACE = new HashMap<>();

    private final List<String> names;
    private final List<int[]> numbers;
    private String seen = null;

    private Scene(List<String> names, List<int[]> numbers) {
        this.names = names;
        this.numbers = numbers;
    }

    /** This run and one call more. */
    Scene with(String name, int... told) {
        List<String> moreNames = new ArrayList<>(names);
        List<int[]> moreNumbers = new ArrayList<>(numbers);
        moreNames.add(name);
        moreNumbers.add(told);
        return new Scene(moreNames, moreNumbers);
    }

    Scene feed(String bytes) {
        Scene scene = this;
        for (int i = 0; i < bytes.length(); i += 5) {
            int n = Math.min(5, bytes.length() - i);
            int[] told = new int[6];
            told[0] = n;
            for (int k = 0; k < n; k++) told[k + 1] = bytes.charAt(i + k);
            scene = scene.with("feed", told);
        }
        return scene;
    }

    Scene text(String once, String twice, String costs) {
        return feed("once " + once + ";twice " + twice + ";costs " + costs + ";").with("text");
    }

    /** A text of which in each world just one is so. */
    Scene fair(String once) {
        return text(once, "not(" + once + ")", "1");
    }

    Scene row(int s, int sort, int... cells) {
        Scene scene = with("sheet", s, sort, cells.length);
        for (int i = 0; i < cells.length; i++) scene = scene.with("cell", s, i, cells[i]);
        return scene;
    }

    SaidTwice make() {
        SaidTwice x = new SaidTwice();
        for (int i = 0; i < names.size(); i++) call(x, names.get(i), numbers.get(i));
        return x;
    }

    static long call(SaidTwice x, String name, int... told) {
        if (FACE.isEmpty()) {
            for (Method method : SaidTwice.class.getMethods()) FACE.put(method.getName(), method);
        }
        Object[] boxed = new Object[told.length];
        for (int i = 0; i < told.length; i++) boxed[i] = told[i];
        try {
            return ((Number) FACE.get(name).invoke(x, boxed)).longValue();
        } catch (IllegalAccessException | InvocationTargetException e) {
            throw new IllegalStateException(name + List.of(boxed), e);
        }
    }

    /** All that can be seen of the object behind this run, the tape, the image and the sheets too. */
    String seen() {
        if (seen == null) {
            StringBuilder found = new StringBuilder();
            seeTalk(make(), found);
            seeTape(make(), found);
            seeImage(make(), found);
            for (int s = 0; s < 4; s++) seeSheet(make(), s, found);
            seen = found.toString();
        }
        return seen;
    }

    private static void see(SaidTwice x, StringBuilder found, String name, int... told) {
        found.append(call(x, name, told)).append(' ');
    }

    private static void seeTalk(SaidTwice x, StringBuilder found) {
        for (int what = 0; what < 5; what++) see(x, found, "count", what);
        for (int s = 0; s < 5; s++) {
            see(x, found, "told", s, 0);
            see(x, found, "told", s, 1);
        }
        for (int k = 0; k < 12; k++) {
            for (int what = 0; what < 3; what++) see(x, found, "said", k, what);
        }
        for (int t = 0; t < 6; t++) {
            see(x, found, "means", t, 0);
            see(x, found, "means", t, 1);
            see(x, found, "asks", t, 0, 4, 0);
            see(x, found, "asks", t, 31, 3, 1);
            see(x, found, "asks", t, 0, 1, 2);
        }
        see(x, found, "worlds");
        see(x, found, "ask", 0);
        see(x, found, "two", 0);
        see(x, found, "drawn", 3);
        found.append("talk\n");
    }

    private static void seeTape(SaidTwice x, StringBuilder found) {
        see(x, found, "text");
        see(x, found, "count", 4);
        for (int t = 0; t < 6; t++) {
            see(x, found, "means", t, 0);
            see(x, found, "means", t, 1);
            see(x, found, "asks", t, 0, 0, 2);
        }
        found.append("tape\n");
    }

    private static void seeImage(SaidTwice x, StringBuilder found) {
        see(x, found, "back");
        seeTalk(x, found);
        found.append("image\n");
    }

    /** Texts and speakers are filled up first, so that the cells' small numbers can be said. */
    private static void seeSheet(SaidTwice x, int s, StringBuilder found) {
        see(x, found, "text");
        for (int i = 0; i < 5; i++) {
            x.speaker(0, 0);
            for (char sign : "once 1;twice 0;costs 1;".toCharArray()) x.feed(1, sign, 0, 0, 0, 0);
            x.text();
        }
        int size = -1;
        while (size < 41 && x.copy(s, size + 1, s, size + 1, 0) == 0) size++;
        found.append(size).append(' ');
        for (int sort = 0; sort < 3; sort++) {
            seeCells(x, s, sort, 0, found);
            // So that the last cells are seen, too: 36 can be said at once.
            seeCells(x, s, sort, size > 36 ? size - 36 : size % 3, found);
        }
        found.append("sheet\n");
    }

    private static void seeCells(SaidTwice x, int s, int sort, int from, StringBuilder found) {
        for (int k = x.count(1); k > 0; k--) x.unsay();
        see(x, found, "sayingsBy", s, sort, from, 12);
        for (int k = 0; k < x.count(1); k++) {
            for (int what = 0; what < 3; what++) see(x, found, "said", k, what);
        }
    }
}
