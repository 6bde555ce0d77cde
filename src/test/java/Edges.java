import java.lang.reflect.InvocationTargetException;
import java.lang.reflect.Method;
import java.util.List;

/**
 * What is due by the sentences of the document. A test begins with the words that it is about;
 * at the end no word of a promise may be left that no test has quoted.
 */
final class Edges {
    static final int UNKNOWN = -1, OUTSIDE = -2, STATE = -3, FULL = -4, NONE = -9;
    static final int NULL = -11, CAST = -12, INDEX = -13, SIZE = -14;
    static final long LOST = Long.MIN_VALUE;
    static final int MOST_CALLS = 512;

    interface Making {
        SkinLoads make();
    }

    private final Document document = new Document();
    private final Due due = new Due("EdgesTest");
    private String sentence = "";

    /** A test begins: about these words, which stand under the heading. */
    void says(String heading, String words) {
        sentence = heading + ", '" + words + "'";
        due.holds(sentence + " stands in the document", document.quotes(heading, words));
    }

    void says(int promise, String words) {
        says("Promise " + promise, words);
    }

    /** A call as it is written, "joint(6, 0, true)", and the answer that is due. */
    void is(SkinLoads x, String call, long want) {
        due.is(sentence + ": " + call, answer(x, call), want);
    }

    /** Calls that answer the upper and the lower number, for which 0 and 1 stand last. */
    void isShare(SkinLoads x, String call, long upper, long lower) {
        String open = call.substring(0, call.length() - 1);
        is(x, open + ", 0)", upper);
        is(x, open + ", 1)", lower);
    }

    void isText(SkinLoads x, String text, long want) {
        due.is(sentence + ": text " + text, Due.readDome(x, text), want);
    }

    void holds(String what, boolean is) {
        due.holds(sentence + ": " + what, is);
    }

    /** A call that changes nothing, not even fault(). */
    void changesNothing(Making making, String call, long want) {
        changesNothingBut(making, call, want, making.make().fault());
    }

    /** Calls that all answer the same and change nothing. */
    void changeNothing(Making making, long want, String... calls) {
        for (String call : calls) {
            changesNothing(making, call, want);
        }
    }

    /** A call that changes nothing but fault(): what fault() is, and that all else is as it was. */
    void changesNothingBut(Making making, String call, long want, int fault) {
        for (int part = 0; part < View.PARTS; part++) {
            SkinLoads asked = making.make();
            is(asked, call, want);
            due.is(sentence + ": fault() after " + call, asked.fault(), fault);
            List<Long> before = View.of(making.make(), part);
            List<Long> after = View.of(asked, part);
            due.holds(sentence + ": " + call + " changes nothing of part " + part + ": " + before + " became " + after,
                before.equals(after));
        }
    }

    void end() {
        due.is("headings with promises", document.headings(), 42);
        for (String piece : document.left()) {
            due.holds("a test quotes: " + piece, false);
        }
        due.end();
    }

    static long answer(SkinLoads x, String call) {
        int open = call.indexOf('(');
        String inside = call.substring(open + 1, call.length() - 1);
        String[] words = inside.isEmpty() ? new String[0] : inside.split(", ");
        Object[] arguments = new Object[words.length];
        Class<?>[] types = new Class<?>[words.length];
        for (int k = 0; k < words.length; k++) {
            boolean isBoolean = words[k].equals("true") || words[k].equals("false");
            types[k] = isBoolean ? boolean.class : int.class;
            arguments[k] = isBoolean ? (Object) Boolean.valueOf(words[k]) : (Object) Integer.valueOf(words[k]);
        }
        try {
            Method method = SkinLoads.class.getMethod(call.substring(0, open), types);
            return ((Number) method.invoke(x, arguments)).longValue();
        } catch (InvocationTargetException e) {
            throw new IllegalStateException(call + " threw", e.getCause());
        } catch (ReflectiveOperationException e) {
            throw new IllegalStateException(call, e);
        }
    }
}
