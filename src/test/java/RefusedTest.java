import java.util.ArrayList;
import java.util.List;
import java.util.function.Consumer;
import java.util.function.ToLongFunction;

/** Refused calls: which refusal comes first, that nothing changes by one, and that answers are of what stands. */
public final class RefusedTest {
    private static final int BAD = Bounds.BAD, NO = Bounds.NO, FULL = Bounds.FULL, NONE = Bounds.NONE;
    private static final int MOST_CALLS = 512;
    /** No state below needs more calls than this, the refused ones with them. */
    private static final int CALLS_AHEAD = 210;

    private static final Bounds b = new Bounds();

    /** A state to be refused in: how an object comes there. */
    private record State(String name, Consumer<RebusSigns> calls) {
        RebusSigns make() {
            RebusSigns x = new RebusSigns();
            calls.accept(x);
            return x;
        }
    }

    private static final State NEW = new State("new", x -> { });
    private static final State FULL_TEXT = new State("a full text", x -> Bounds.tell(x, "x".repeat(200)));
    private static final State CHANGED = new State("changed", x -> {
        Bounds.tell(x, "sb;sn;m0;w0,ban;w1,bn;w2,x;k1;");
        x.lay();
        Bounds.carve(x, 0, 1, 2);
        x.strike(2, 1);
        x.chip();
        x.law(0);
        x.write('?');
    });
    private static final State FULL_ROW = new State("a full inscription", x -> {
        Bounds.tell(x, "sb;sn;w0,b;w1,n;w2,bn;");
        x.lay();
        Bounds.carve(x, 0, 1, 0, 1, 0, 1, 0, 1, 0, 1, 0, 1, 0, 1, 0, 1);
    });
    private static final State WITHOUT_WORD = new State("a text without a word", x -> {
        Bounds.carve(x, 3, 5);
        Bounds.tell(x, "sb;sn;m0;k0;");
    });

    public static void main(String[] args) {
        nothingChanges();
        firstInOrder();
        suchAsThereAre();
        asItStandsThen();
        b.finish();
    }

    /** All answers that an object has, changes undone step by step at the end. */
    private static List<Long> answers(RebusSigns x) {
        List<Long> all = new ArrayList<>();
        int left;
        boolean whole = true;
        do {
            int[] counts = new int[10];
            for (int what = 0; what <= 9; what++) {
                counts[what] = x.count(what);
                all.add((long) counts[what]);
            }
            if (whole) {
                addSignsAndWords(x, counts[0], counts[1], all);
                all.add((long) x.fault());
            }
            addInscription(x, counts[4], all);
            whole = false;
            left = x.undo();
            all.add((long) left);
        } while (left != NO && left >= 0);
        all.add((long) x.lay());
        all.add((long) x.wipe());
        return all;
    }

    private static void addSignsAndWords(RebusSigns x, int signs, int words, List<Long> all) {
        for (int s = 0; s < signs; s++) {
            for (int what = 0; what <= 4; what++) {
                all.add((long) x.sign(s, what));
            }
        }
        for (int w = 0; w < words; w++) {
            for (int what = 0; what <= 4; what++) {
                all.add((long) x.word(w, what));
            }
            for (int k = -2; k <= 2; k++) {
                all.add((long) x.least(w, k));
            }
            all.add((long) x.mark(w));
            all.add(x.writings(w));
        }
    }

    private static void addInscription(RebusSigns x, int carved, List<Long> all) {
        for (int k = 0; k < carved; k += 3) {
            all.add((long) x.carved(k));
            all.add((long) x.read(k, 1));
            all.add((long) x.reading(k));
        }
        all.add(x.readings());
        all.add((long) x.reading(-1));
        all.add((long) x.cut(0));
    }

    /** An object that was refused something answers all as one that was not asked for it. */
    private static void refused(State state, String call, ToLongFunction<RebusSigns> asked, long want) {
        RebusSigns x = state.make();
        b.due(state.name() + ": " + call, asked.applyAsLong(x), want);
        b.due(state.name() + ": " + call + " again", asked.applyAsLong(x), want);
        List<Long> with = answers(x);
        List<Long> without = answers(state.make());
        b.due(state.name() + ": not too many calls", with.size() + CALLS_AHEAD <= MOST_CALLS ? 1 : 0, 1);
        b.due(state.name() + ": nothing changes by " + call, with.equals(without) ? 1 : 0, 1);
    }

    private static void nothingChanges() {
        b.sentence("Of several the first in this order; nothing changes then.");
        for (State state : List.of(NEW, CHANGED, FULL_ROW, FULL_TEXT, WITHOUT_WORD)) {
            refused(state, "write(31)", x -> x.write(31), BAD);
            refused(state, "write(127)", x -> x.write(127), BAD);
            refused(state, "strike(-1, 1)", x -> x.strike(-1, 1), BAD);
            refused(state, "strike(12, 1)", x -> x.strike(12, 1), BAD);
            refused(state, "strike(0, 2)", x -> x.strike(0, 2), BAD);
            refused(state, "strike(0, -1)", x -> x.strike(0, -1), BAD);
            refused(state, "strike(0, 0)", x -> x.strike(0, 0), NO);
            refused(state, "law(-1)", x -> x.law(-1), BAD);
            refused(state, "law(2)", x -> x.law(2), BAD);
            refused(state, "law as it is", x -> x.law(x.count(2)), NO);
            refused(state, "carve(-1)", x -> x.carve(-1), BAD);
            refused(state, "carve(12)", x -> x.carve(12), BAD);
        }
        for (State state : List.of(NEW, CHANGED, FULL_TEXT, WITHOUT_WORD)) {
            refused(state, "lay()", x -> x.lay(), NO);
        }
        refused(FULL_TEXT, "write(97)", x -> x.write('a'), FULL);
        refused(FULL_ROW, "carve(0)", x -> x.carve(0), FULL);
        refused(CHANGED, "strike(2, 1)", x -> x.strike(2, 1), NO);
        refused(NEW, "chip()", x -> x.chip(), NO);
        refused(NEW, "undo()", x -> x.undo(), NO);
        refused(FULL_TEXT, "undo()", x -> x.undo(), NO);
        refused(CHANGED, "fault()", x -> x.fault(), 30);
        refused(WITHOUT_WORD, "fault()", x -> x.fault(), NONE);
    }

    private static void firstInOrder() {
        b.sentence("BAD: a number is none that is told (SIGNS, WORDS such as there are). NO: not as things stand. NONE: there is "
            + "none. FULL. Of several the first in this order");
        RebusSigns text = FULL_TEXT.make();
        b.due("write: BAD ahead of FULL", text.write(0), BAD);
        RebusSigns row = FULL_ROW.make();
        b.due("carve: BAD ahead of FULL", row.carve(2), BAD);
        b.due("strike: BAD ahead of NO", row.strike(2, 0), BAD);
        b.due("read: BAD ahead of NO, by n", row.read(16, 0), BAD);
        b.due("read: BAD ahead of NO, by n", row.read(16, 10), BAD);
        b.due("read: BAD ahead of NO, by i", row.read(-1, 9), BAD);
        RebusSigns x = CHANGED.make();
        b.due("sign: BAD ahead of NONE", x.sign(3, 1), BAD);
        b.due("least: BAD ahead of NONE, by k", x.least(2, -3), BAD);
        b.due("least: BAD ahead of NONE, by w", x.least(3, 100), BAD);
        b.due("mark: BAD ahead of NONE", x.mark(3), BAD);
        b.due("carved: BAD ahead of NONE", x.carved(-1), BAD);
        b.due("reading: BAD ahead of NONE", x.reading(-2), BAD);
        b.due("cut: BAD ahead of NONE", x.cut(-1), BAD);
    }

    private static void suchAsThereAre() {
        b.sentence("(SIGNS, WORDS such as there are)");
        for (int n = 1; n <= 8; n++) {
            StringBuilder text = new StringBuilder();
            for (int i = 0; i < n; i++) {
                text.append("sb;w").append(i % 6).append(i < 6 ? ",b;" : ",bb;");
            }
            RebusSigns x = b.laid(text.toString());
            b.due("the last sign: strike", x.strike(n - 1, 1), 1);
            b.due("the last sign: carve", x.carve(n - 1), 1);
            b.due("the last sign: sign", x.sign(n - 1, 0), 1);
            b.due("one more: strike", x.strike(n, 1), BAD);
            b.due("one more: carve", x.carve(n), BAD);
            b.due("one more: sign", x.sign(n, 0), BAD);
            b.due("the last word: word", x.word(n - 1, 0), (n - 1) % 6);
            b.due("the last word: least", x.least(n - 1, -2), n == 1 ? NONE : 0);
            b.due("the last word: mark", x.mark(n - 1), NONE);
            b.due("the last word: writings", x.writings(n - 1), n <= 6 ? n - 1 : (n - 1) * (n - 1));
            b.due("one more: word", x.word(n, 0), BAD);
            b.due("one more: least", x.least(n, -2), BAD);
            b.due("one more: mark", x.mark(n), BAD);
            b.due("one more: writings", x.writings(n), BAD);
        }
        RebusSigns fewer = b.laid("sa;sb;sc;w0,a;w1,a;w2,a;");
        b.due("words that have a writing", fewer.count(5) * 10 + fewer.sign(0, 4), 33);
        Bounds.tell(fewer, "sa;w0,a;");
        b.due("lay() of fewer", fewer.lay(), 1);
        b.due("words that have a writing now", fewer.count(5) * 10 + fewer.sign(0, 4), 11);
        b.due("clear words now", fewer.count(6), 1);
        b.due("mixed words now", fewer.count(7) * 10 + fewer.word(0, 4), 0);
        b.due("what was there before is not there", fewer.sign(1, 0), BAD);
        b.due("what was there before is not there", fewer.carve(1), BAD);
        b.due("what was there before is not there", fewer.word(1, 0), BAD);
        b.due("what was there before is not there", fewer.writings(1), BAD);
    }

    private static void asItStandsThen() {
        b.sentence("All that is asked is told of all as it stands then");
        RebusSigns x = b.laid("sba;sb;m0;w0,ba;w1,ba;", 0);
        dueAll(x, "at first", 0, 2, 1, 3, 2);
        x.strike(0, 1);
        dueAll(x, "ba struck", NONE, 0, 0, 0, 0);
        x.law(1);
        dueAll(x, "loose", 1, 2, 1, 0, 0);
        x.strike(0, 0);
        dueAll(x, "ba not struck", 0, 4, 1, 3, 2);
        x.strike(2, 1);
        dueAll(x, "the mark struck", 0, 2, 1, 3, 2);
        b.due("not clear then", x.word(0, 3), 0);
        x.undo();
        b.due("clear again", x.word(0, 3), 2);
        x.undo();
        dueAll(x, "undone: ba struck", 1, 2, 1, 0, 0);
        x.undo();
        dueAll(x, "undone: strict", NONE, 0, 0, 0, 0);
        x.undo();
        dueAll(x, "undone: as at first", 0, 2, 1, 3, 2);
        x.carve(0);
        b.due("readings() of two", x.readings(), 4);
        b.due("cut(1)", x.cut(1), 1);
        x.undo();
        b.due("readings() of one", x.readings(), 2);
        b.due("cut(1)", x.cut(1), NONE);
        Bounds.tell(x, "m0;sb;w0,b;");
        b.due("lay()", x.lay(), 2);
        b.due("least(0, 0) of the new text", x.least(0, 0), 1);
        b.due("writings(0) of the new text", x.writings(0), 2);
        b.due("count(7) of the new text", x.count(7), 0);
    }

    private static void dueAll(RebusSigns x, String when, int least, long writings, int pairs, int read, long readings) {
        b.due(when + ": least(0, 0)", x.least(0, 0), least);
        b.due(when + ": writings(0)", x.writings(0), writings);
        b.due(when + ": count(7)", x.count(7), pairs);
        b.due(when + ": read(0, 1)", x.read(0, 1), read);
        b.due(when + ": readings()", x.readings(), readings);
    }
}
