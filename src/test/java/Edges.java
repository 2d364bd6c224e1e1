import java.lang.reflect.InvocationTargetException;
import java.lang.reflect.Method;
import java.lang.reflect.Modifier;
import java.util.Arrays;

/** What the tests of boundary cases share: an object in a known state, and calls that must leave it so. */
final class Edges {
    interface Call {
        long of(SortingNets x);
    }

    static final int MIN = Integer.MIN_VALUE;
    static final int MAX = Integer.MAX_VALUE;
    static final String FOUR = "4:01,23,02,13,12";
    /** Net 0 sorts, net 1 does not, net 2 has the fewest wires, net 3 the most of all, and sorts. */
    private static final String[] NETS = {FOUR, "4:03,12", "2:01", pairs(8, 60)};
    /** Net 1 is wrong with 6 patterns, the first is 2. */
    private static final long[] ROW = {6, 2};
    private static final String TEXT = "3:10,21";

    private Edges() {
    }

    /** Runs every test of a class, so that none is written and then forgotten. */
    static void run(Class<?> tests) throws ReflectiveOperationException {
        Method[] all = tests.getDeclaredMethods();
        Arrays.sort(all, (a, b) -> a.getName().compareTo(b.getName()));
        int ran = 0;
        for (Method test : all) {
            boolean due = Modifier.isStatic(test.getModifiers()) && !Modifier.isPrivate(test.getModifiers())
                && test.getParameterCount() == 0;
            if (due) {
                try {
                    test.invoke(null);
                } catch (InvocationTargetException e) {
                    Check.due(test.getName() + " throws " + e.getCause(), 1, 0);
                }
                ran++;
            }
        }
        Check.due(tests.getName() + " has tests", ran > 0, true);
        Check.finish(tests.getName());
    }

    /** A net's text of so many pairs: 01, 12, .. again and again; many times that sorts. */
    static String pairs(int n, int many) {
        StringBuilder text = new StringBuilder();
        text.append(n).append(':');
        for (int k = 0; k < many; k++) {
            int w = k % (n - 1);
            text.append(k == 0 ? "" : ",").append(w).append(w + 1);
        }
        return text.toString();
    }

    static SortingNets with(String... nets) {
        SortingNets x = new SortingNets();
        for (int s = 0; s < nets.length; s++) {
            Check.due("with " + nets[s], Check.net(x, s, nets[s]) >= 0, true);
        }
        return x;
    }

    static SortingNets sample() {
        SortingNets x = with(NETS);
        x.sorts(1);
        Check.text(x, TEXT);
        return x;
    }

    private static void rowStays(String call, SortingNets x) {
        Check.row(call + " keeps the row", x, ROW);
    }

    private static void netsStay(String call, SortingNets x) {
        for (int s = 0; s < NETS.length; s++) {
            Check.shape(call + " keeps net " + s, x, s, NETS[s]);
        }
    }

    private static void textStays(String call, SortingNets x) {
        Check.due(call + " keeps the signs", x.count(1), TEXT.length());
        Check.due(call + " keeps the text", x.net(0), 2);
        Check.row(call + " keeps the text", x, 1, 2, 0);
        Check.shape(call + " keeps the text", x, 0, "3:01,02");
    }

    /** The call answers so, and nothing is changed. */
    static void refused(String call, long want, Call made) {
        SortingNets x = sample();
        Check.due(call, made.of(x), want);
        rowStays(call, x);
        netsStay(call, x);
        textStays(call, x);
    }

    /** The call reads the text: it answers so, and nothing but the text is changed, which is empty. */
    static void refusedReading(String call, String text, long want, Call made) {
        SortingNets x = sample();
        x.end(0);
        Check.text(x, text);
        Check.due(call + " of \"" + text + "\"", made.of(x), want);
        Check.due(call + " of \"" + text + "\" empties the text", x.count(1), 0);
        rowStays(call, x);
        netsStay(call, x);
    }

    /** The call asks: it changes nothing but the row, which is told anew. */
    static void asks(String call, Call made, long... row) {
        SortingNets x = sample();
        Check.due(call + " is answered", made.of(x) >= 0, true);
        Check.row(call + " tells the row", x, row);
        netsStay(call, x);
        textStays(call, x);
    }

    /** The call is answered, and the row stays. */
    static void keepsRow(String call, Call made) {
        SortingNets x = sample();
        Check.due(call + " is answered", made.of(x) >= 0, true);
        rowStays(call, x);
    }
}
