/** Each promise of the document by answers worked out by hand: ordinary inputs, edges, wrong inputs. */
public final class PromisesTest {
    private static final int BAD = -1, NO = -2, FULL = -3, NONE = -4;
    private static final int[] NO_NUMBERS = {Integer.MIN_VALUE, -5, -1, 12, 100, Integer.MAX_VALUE};

    private static final Check check = new Check();

    public static void main(String[] args) {
        aNewObject();
        writeAndWipe();
        faultOfItems();
        faultOfTooMany();
        lay();
        strike();
        law();
        carveAndChip();
        undo();
        undoLimit();
        sign();
        word();
        vowelsLeftOut();
        leastOrder();
        clearByMark();
        mixed();
        writings();
        carved();
        read();
        onePictureAlone();
        readings();
        theReading();
        count();
        wrongNumbers();
        check.finish();
    }

    private static void due(String call, long got, long want) {
        check.due(call, got, want);
    }

    private static void tell(RebusSigns x, String text) {
        x.wipe();
        for (int i = 0; i < text.length(); i++) {
            due("write of " + text + " at " + i, x.write(text.charAt(i)), i + 1);
        }
    }

    private static RebusSigns laid(String text) {
        RebusSigns x = new RebusSigns();
        tell(x, text);
        due("fault of " + text, x.fault(), NONE);
        due("lay of " + text, x.lay(), x.count(0));
        return x;
    }

    private static void carve(RebusSigns x, int... signs) {
        for (int s : signs) {
            int before = x.count(4);
            due("carve(" + s + ")", x.carve(s), before + 1);
        }
    }

    private static void dueLeast(String what, RebusSigns x, int w, int leftOut, int... row) {
        due(what + ": least(" + w + ", -1)", x.least(w, -1), row.length);
        due(what + ": least(" + w + ", -2)", x.least(w, -2), leftOut);
        for (int k = 0; k < row.length; k++) {
            due(what + ": least(" + w + ", " + k + ")", x.least(w, k), row[k]);
        }
        due(what + ": least behind its end", x.least(w, row.length), NONE);
        due(what + ": least far behind its end", x.least(w, Integer.MAX_VALUE), NONE);
    }

    private static void dueReading(String what, RebusSigns x, int... cutsAndWords) {
        int n = cutsAndWords.length / 2;
        due(what + ": reading(-1)", x.reading(-1), n);
        for (int k = 0; k < n; k++) {
            due(what + ": cut(" + k + ")", x.cut(k), cutsAndWords[2 * k]);
            due(what + ": reading(" + k + ")", x.reading(k), cutsAndWords[2 * k + 1]);
        }
        due(what + ": reading behind its end", x.reading(n), NONE);
        due(what + ": cut behind its end", x.cut(n), NONE);
    }

    private static void aNewObject() {
        RebusSigns x = new RebusSigns();
        int[] counts = {10, 7, 1, 0, 0, 7, 6, 2, 0, 0};
        for (int what = 0; what < counts.length; what++) {
            due("new: count(" + what + ")", x.count(what), counts[what]);
        }
        int[] kinds = {0, 0, 0, 0, 1, 1, 1, 1, 2, 2};
        int[] classes = {0, 1, 2, 3, NONE, NONE, NONE, NONE, 4, 1};
        int[] letters = {3, 4, 3, 3, 1, 1, 1, 1, 0, 0};
        for (int s = 0; s < kinds.length; s++) {
            due("new: sign(" + s + ", 0)", x.sign(s, 0), kinds[s]);
            due("new: sign(" + s + ", 1)", x.sign(s, 1), classes[s]);
            due("new: sign(" + s + ", 2)", x.sign(s, 2), letters[s]);
            due("new: sign(" + s + ", 3)", x.sign(s, 3), 0);
        }
        due("new: wipe", x.wipe(), 0);
        due("new: undo", x.undo(), NO);
        due("new: chip", x.chip(), NO);
        due("new: an empty text has no fault", x.fault(), NONE);
        due("new: an empty text is not laid", x.lay(), NO);
        RebusSigns other = new RebusSigns();
        x.strike(0, 1);
        due("objects are apart", other.count(3), 0);
    }

    private static void writeAndWipe() {
        RebusSigns x = new RebusSigns();
        due("write(31)", x.write(31), BAD);
        due("write(127)", x.write(127), BAD);
        due("write(-1)", x.write(-1), BAD);
        due("write(65536 + 97)", x.write(65536 + 97), BAD);
        due("BAD writes nothing", x.count(9), 0);
        due("write(32)", x.write(32), 1);
        due("write(126)", x.write(126), 2);
        due("wipe", x.wipe(), 2);
        due("wipe again", x.wipe(), 0);
        for (int i = 1; i <= 200; i++) {
            due("write " + i, x.write('k'), i);
        }
        due("write behind 200", x.write('k'), FULL);
        due("BAD is ahead of FULL", x.write(127), BAD);
        due("count(9)", x.count(9), 200);
        due("a fault in a full text", x.fault(), 0);
        due("wipe of 200", x.wipe(), 200);
        due("write after wipe", x.write('s'), 1);
    }

    private static void dueFault(String text, int want) {
        RebusSigns x = new RebusSigns();
        tell(x, text);
        due("fault of " + text, x.fault(), want);
        if (want != NONE) {
            due("lay of " + text, x.lay(), NO);
            due("a faulty text changes nothing: " + text, x.count(0), 10);
        }
    }

    private static void faultOfItems() {
        for (String item : new String[] {"p0,a", "p5,zzzz", "sa", "sabcd", "m0", "m5", "w0,a", "w5,abcdefgh", "k0",
            "k1"}) {
            dueFault(item + ";", NONE);
            dueFault(item, 0);
            dueFault(item + "; ", item.length() + 1);
            dueFault(item + ";;", item.length() + 1);
            dueFault("k0;" + item + ";" + item + ",;", 3 + item.length() + 1);
        }
        for (String item : new String[] {"", "p", "p0", "p0,", "p0a", "p6,a", "p,a", "p00,a", "p0,abcde", "p0,aB",
            "p0,a b", "p0,a1", "P0,a", "p-,a", "s", "sabcde", "sA", "s0", "s,a", "m", "m6", "m00", "m0,", "m0,a", "ma",
            "w", "w0", "w0,", "w6,a", "w0,abcdefghi", "w0,a,b", "w0a", "w0,,a", "k", "k2", "k00", "k0,", "kk", "x0",
            " sa", "sa "}) {
            dueFault(item + ";", 0);
            dueFault("sa;" + item + ";", 3);
            dueFault("sa;m0;w0,a;" + item + ";?;", 11);
        }
        dueFault("w0,a;w1,a;w0,aa;w0,a;", 16);
        dueFault("w0,a;s1;w0,a;", 5);
        dueFault("k0;k1;k0;k1;", NONE);
        dueFault("sa;sa;m0;m0;p0,a;p0,a;", NONE);
    }

    private static void faultOfTooMany() {
        String twelve = "sa;sa;sa;sa;m0;m0;m0;m0;p0,a;p0,a;p0,a;p0,a;";
        dueFault(twelve, NONE);
        for (String more : new String[] {"sb;", "m1;", "p1,b;"}) {
            dueFault(twelve + more, twelve.length());
            dueFault(twelve + "w0,a;k1;" + more + "?", twelve.length() + 8);
        }
        String eight = "w0,a;w1,a;w2,a;w3,a;w4,a;w5,a;w0,b;w1,b;";
        dueFault(eight, NONE);
        dueFault(eight + "k1;sa;", NONE);
        dueFault(eight + "w2,b;", eight.length());
        dueFault(twelve + eight + "k1;", NONE);
        due("12 signs laid", laid(twelve + eight).lay(), 12);
    }

    private static void lay() {
        RebusSigns x = new RebusSigns();
        tell(x, "sa;");
        due("lay without a word", x.lay(), NO);
        tell(x, "w0,a;");
        due("lay without a sign", x.lay(), NO);
        tell(x, "k0;");
        due("lay without both", x.lay(), NO);
        due("what was laid stays", x.count(0), 10);
        due("its law too", x.count(2), 1);
        carve(x, 0, 1);
        x.strike(3, 1);
        tell(x, "m0;w0,a;w1,b;");
        due("a mark is a sign", x.lay(), 1);
        due("lay: signs", x.count(0), 1);
        due("lay: words", x.count(1), 2);
        due("lay: law is 0 without", x.count(2), 0);
        due("lay: none is struck", x.count(3), 0);
        due("lay: the inscription is empty", x.count(4), 0);
        due("lay: nothing can be undone", x.count(8), 0);
        due("lay: undo", x.undo(), NO);
        due("lay: the text stays", x.count(9), 13);
        x.strike(0, 1);
        carve(x, 0);
        x.write('?');
        due("lay of a faulty text", x.lay(), NO);
        due("NO changes nothing: struck", x.count(3), 1);
        due("NO changes nothing: inscription", x.count(4), 1);
        due("NO changes nothing: undo", x.count(8), 2);
        due("the last law counts", laid("k0;k1;sa;w0,a;k1;k0;").count(2), 0);
        due("the last law counts", laid("k0;sa;w0,a;k1;").count(2), 1);
        RebusSigns again = laid("sa;w0,a;");
        again.strike(0, 1);
        due("lay again", again.lay(), 1);
        due("lay again: none is struck", again.sign(0, 3), 0);
        due("lay again: writings", again.writings(0), 1);
    }

    private static void strike() {
        RebusSigns x = new RebusSigns();
        due("strike(0, 0) as it is", x.strike(0, 0), NO);
        due("strike(0, 1)", x.strike(0, 1), 1);
        due("strike(0, 1) again", x.strike(0, 1), NO);
        due("strike(9, 1)", x.strike(9, 1), 2);
        due("sign(9, 3)", x.sign(9, 3), 1);
        due("strike(0, 0)", x.strike(0, 0), 1);
        due("sign(0, 3)", x.sign(0, 3), 0);
        due("strike(10, 1)", x.strike(10, 1), BAD);
        due("strike(-1, 1)", x.strike(-1, 1), BAD);
        due("strike(1, 2)", x.strike(1, 2), BAD);
        due("strike(1, -1)", x.strike(1, -1), BAD);
        due("NO and BAD are no changes", x.count(8), 3);
        due("struck in all", x.count(3), 1);
        RebusSigns y = laid("sab;sa;sb;w0,ab;");
        dueLeast("whole", y, 0, 0, 0);
        due("writings", y.writings(0), 2);
        y.strike(0, 1);
        dueLeast("with ab struck", y, 0, 0, 1, 2);
        due("writings with ab struck", y.writings(0), 1);
        y.strike(2, 1);
        due("least with b struck", y.least(0, -1), NONE);
        due("writings with b struck", y.writings(0), 0);
        y.undo();
        dueLeast("b undone", y, 0, 0, 1, 2);
    }

    private static void law() {
        RebusSigns x = new RebusSigns();
        due("law(1) as it is", x.law(1), NO);
        due("law(2)", x.law(2), BAD);
        due("law(-1)", x.law(-1), BAD);
        due("law(0)", x.law(0), 1);
        due("count(2)", x.count(2), 0);
        due("law(0) again", x.law(0), NO);
        due("law(1)", x.law(1), 0);
        due("changes", x.count(8), 2);
        due("undo law", x.undo(), 1);
        due("count(2) undone", x.count(2), 0);
    }

    private static void carveAndChip() {
        RebusSigns x = new RebusSigns();
        due("carve(10)", x.carve(10), BAD);
        due("carve(-1)", x.carve(-1), BAD);
        due("chip of none", x.chip(), NO);
        x.strike(8, 1);
        due("a struck sign is carved", x.carve(8), 1);
        due("chip", x.chip(), 8);
        for (int i = 1; i <= 16; i++) {
            due("carve " + i, x.carve(i % 10), i);
        }
        due("carve behind 16", x.carve(0), FULL);
        due("BAD is ahead of FULL", x.carve(10), BAD);
        for (int i = 16; i >= 1; i--) {
            due("chip " + i, x.chip(), i % 10);
        }
        due("chip of none", x.chip(), NO);
    }

    private static void undo() {
        RebusSigns x = new RebusSigns();
        x.strike(2, 1);
        x.law(0);
        carve(x, 4, 5);
        x.chip();
        due("count(8)", x.count(8), 5);
        due("undo chip", x.undo(), 4);
        due("the sign is back", x.carved(1), 5);
        due("undo carve", x.undo(), 3);
        due("undo carve", x.count(4), 1);
        due("undo carve", x.undo(), 2);
        due("undo law", x.undo(), 1);
        due("the law is back", x.count(2), 1);
        due("undo strike", x.undo(), 0);
        due("it is not struck", x.sign(2, 3), 0);
        due("undo of none", x.undo(), NO);
        x.strike(2, 1);
        x.strike(2, 0);
        due("undo", x.undo(), 1);
        due("struck again", x.sign(2, 3), 1);
        x.write('s');
        x.wipe();
        due("a text is no change", x.count(8), 1);
    }

    private static void undoLimit() {
        RebusSigns x = new RebusSigns();
        carve(x, 0, 1, 2, 3, 4, 5, 6, 7);
        due("the last 6", x.count(8), 6);
        for (int left = 5; left >= 0; left--) {
            due("undo", x.undo(), left);
        }
        due("undo of the 7th", x.undo(), NO);
        due("two stay", x.count(4), 2);
        due("the second", x.carved(1), 1);
    }

    private static void sign() {
        RebusSigns x = laid("sa;p3,ab;m5;sb;w0,aab;w1,ab;w2,aaa;w3,b;");
        due("kind", x.sign(0, 0), 1);
        due("class of a sound", x.sign(0, 1), NONE);
        due("class of a picture", x.sign(1, 1), 3);
        due("class of a mark", x.sign(2, 1), 5);
        due("letters", x.sign(1, 2), 2);
        due("letters of a mark", x.sign(2, 2), 0);
        due("a thrice in one least writing, once in another", x.sign(0, 4), 2);
        due("ab in two least writings", x.sign(1, 4), 2);
        due("a mark in none", x.sign(2, 4), 0);
        due("b in one, alone", x.sign(3, 4), 1);
        due("what -1", x.sign(0, -1), BAD);
        due("what 5", x.sign(0, 5), BAD);
        due("sign 4", x.sign(4, 0), BAD);
        x.strike(1, 1);
        due("b in three with ab struck", x.sign(3, 4), 3);
        due("ab in none when struck", x.sign(1, 4), 0);
    }

    private static void word() {
        RebusSigns x = laid("sa;w5,aeiou;w0,xyz;w2,banana;");
        due("class", x.word(0, 0), 5);
        due("letters", x.word(0, 1), 5);
        due("vowels", x.word(0, 2), 5);
        due("y is none", x.word(1, 2), 0);
        due("vowels", x.word(2, 2), 3);
        due("not written: not clear", x.word(1, 3), 0);
        due("not written: not mixed", x.word(1, 4), 0);
        due("what 5", x.word(0, 5), BAD);
        due("what -1", x.word(0, -1), BAD);
        due("word 3", x.word(3, 0), BAD);
        due("word -1", x.word(-1, 0), BAD);
    }

    private static void vowelsLeftOut() {
        RebusSigns x = laid("sb;sn;sbn;sna;w0,abana;w1,bean;w2,bn;w3,bana;k1;");
        dueLeast("ahead, between, behind", x, 0, 2, 0, 3);
        dueLeast("not within a sound", x, 1, 2, 0, 1);
        dueLeast("none left out", x, 2, 0, 2);
        dueLeast("between", x, 3, 1, 0, 3);
        due("abana: b n, b na", x.writings(0), 2);
        due("bn: b n, bn", x.writings(2), 2);
        x.law(0);
        due("strict: abana", x.least(0, -1), NONE);
        due("strict: bean", x.least(1, -2), NONE);
        due("strict: bn", x.writings(2), 2);
        RebusSigns y = laid("st;sat;w0,tata;w1,stat;k1;");
        dueLeast("a consonant is never left out", y, 0, 1, 0, 1);
        due("s is not written", y.least(1, -1), NONE);
        due("tata: t t, t at", y.writings(0), 2);
        RebusSigns z = laid("sa;w0,aaa;w1,e;k1;");
        dueLeast("all but one", z, 0, 2, 0);
        due("the empty row writes nothing", z.writings(1), 0);
        due("unlike rows: a, aa, aaa", z.writings(0), 3);
    }

    private static void leastOrder() {
        RebusSigns x = laid("sc;sa;sn;sca;san;scan;w0,cano;k1;");
        dueLeast("fewest signs", x, 0, 1, 5);
        x.strike(5, 1);
        dueLeast("fewest left out, then the lower first sign", x, 0, 1, 0, 4);
        x.strike(4, 1);
        dueLeast("the fewest left out", x, 0, 1, 3, 2);
        x.strike(3, 1);
        dueLeast("vowels go first", x, 0, 2, 0, 2);
        RebusSigns y = laid("sb;sba;sn;w0,ban;k1;");
        dueLeast("fewest left out is ahead of the lower sign", y, 0, 0, 1, 2);
        RebusSigns z = laid("sa;p1,a;sb;sb;w0,ab;");
        dueLeast("the lower of equals", z, 0, 0, 0, 2);
        z.strike(0, 1);
        dueLeast("the next of equals", z, 0, 0, 1, 2);
        RebusSigns long8 = laid("sa;w0,aaaaaaaa;");
        dueLeast("eight signs", long8, 0, 0, 0, 0, 0, 0, 0, 0, 0, 0);
        due("k below -2", x.least(0, -3), BAD);
        due("k far below", x.least(0, Integer.MIN_VALUE), BAD);
        due("no such word", x.least(1, -1), BAD);
        due("BAD is ahead of NONE", laid("sa;w0,b;").least(0, -3), BAD);
    }

    private static void clearByMark() {
        RebusSigns x = laid("m1;sb;m0;m0;m2;w0,ba;w1,bo;w1,bi;w3,be;k1;");
        due("ba: with a mark", x.word(0, 3), 2);
        due("ba: the lowest mark of its class", x.mark(0), 2);
        due("bo: bi has its class", x.word(1, 3), 0);
        due("bo: no mark helps", x.mark(1), NONE);
        due("be: no mark of its class", x.word(3, 3), 0);
        due("be: no mark", x.mark(3), NONE);
        due("clear words", x.count(6), 1);
        x.strike(2, 1);
        due("ba: the next mark", x.mark(0), 3);
        x.strike(3, 1);
        due("ba: all marks struck", x.word(0, 3), 0);
        due("ba: no mark is left", x.mark(0), NONE);
        x.law(0);
        due("strict: no writing, no mark", x.mark(0), NONE);
        due("mark of no word", x.mark(4), BAD);
        due("mark of no word", x.mark(-1), BAD);
        RebusSigns y = laid("sb;m0;w0,b;");
        due("alone", y.word(0, 3), 1);
        due("alone: no mark", y.mark(0), NONE);
        RebusSigns nine = laid("sa;m0;w0,aaaaaaaa;w1,aaaaaaaa;");
        due("eight signs and a mark", nine.word(0, 3), 2);
        due("eight signs and a mark", nine.mark(0), 1);
        due("eight signs, no mark", nine.word(1, 3), 0);
    }

    private static void mixed() {
        RebusSigns x = laid("sb;sn;w0,ba;w1,bo;w2,b;w3,bn;w4,x;w5,x;k1;");
        due("pairs", x.count(7), 3);
        due("ba", x.word(0, 4), 2);
        due("b", x.word(2, 4), 2);
        due("bn", x.word(3, 4), 0);
        due("words without a writing are not mixed", x.word(4, 4), 0);
        x.law(0);
        due("strict: pairs", x.count(7), 0);
        RebusSigns y = laid("sab;sa;sb;w0,ab;w1,ab;");
        due("all writings alike", y.count(7), 1);
        RebusSigns z = laid("sn;sna;w0,na;w1,ne;k1;");
        due("na is by na, ne by n", z.count(7), 0);
    }

    private static void writings() {
        RebusSigns x = laid("sa;sa;m0;m0;m1;w0,aaaaaaaa;w1,aa;w2,a;");
        due("2 to the 8th, with 2 marks or none", x.writings(0), 256 * 3);
        due("one mark or none", x.writings(1), 4 * 2);
        due("no mark", x.writings(2), 2);
        x.law(1);
        due("loose: 1 to 8 signs", x.writings(0), 510 * 3);
        x.strike(2, 1);
        due("a mark struck", x.writings(0), 510 * 2);
        due("no such word", x.writings(3), BAD);
        due("no such word", x.writings(-1), BAD);
        RebusSigns many = laid("sa;sa;sa;sa;sa;sa;sa;sa;sa;sa;sa;sa;w0,aaaaaaaa;k1;");
        due("12 + 12 * 12 + ..", many.writings(0), 469070940L);
        RebusSigns marks = laid("m0;m0;sa;w0,a;w1,b;");
        due("a mark alone is no writing", marks.writings(0), 3);
        due("b has none", marks.writings(1), 0);
        due("words that have a writing", marks.count(5), 1);
    }

    private static void carved() {
        RebusSigns x = new RebusSigns();
        due("none", x.carved(0), NONE);
        carve(x, 7, 0);
        due("first", x.carved(0), 7);
        due("second", x.carved(1), 0);
        due("third", x.carved(2), NONE);
        due("far", x.carved(Integer.MAX_VALUE), NONE);
        due("below", x.carved(-1), BAD);
        due("far below", x.carved(Integer.MIN_VALUE), BAD);
    }

    private static void read() {
        RebusSigns x = laid("sb;sn;m0;m1;w0,ban;w1,bone;w0,bun;w2,n;k1;");
        carve(x, 0, 1, 2, 3, 1, 0);
        due("b n", x.read(0, 2), 7);
        due("b n m0", x.read(0, 3), 5);
        due("a mark behind a mark", x.read(0, 4), 0);
        due("a mark alone", x.read(2, 1), 0);
        due("marks alone", x.read(2, 2), 0);
        due("a mark ahead", x.read(3, 2), 0);
        due("n m0", x.read(1, 2), 0);
        due("n", x.read(4, 1), 8);
        due("n b", x.read(4, 2), 0);
        due("to the end", x.read(5, 1), 0);
        due("behind the end", x.read(5, 2), NO);
        due("from the end on", x.read(6, 1), NO);
        due("far behind", x.read(Integer.MAX_VALUE, 9), NO);
        due("n = 0", x.read(0, 0), BAD);
        due("n = 10", x.read(0, 10), BAD);
        due("i = -1", x.read(-1, 1), BAD);
        due("BAD is ahead of NO", x.read(100, 10), BAD);
        x.strike(2, 1);
        due("with a struck mark", x.read(0, 3), 0);
        x.strike(1, 1);
        due("with a struck sound", x.read(0, 2), 0);
        x.undo();
        x.law(0);
        due("strict: b n", x.read(0, 2), 0);
        due("strict: n", x.read(1, 1), 8);
        RebusSigns y = laid("sa;m0;w0,aaaaaaaa;w1,aaaaaaaa;");
        carve(y, 0, 0, 0, 0, 0, 0, 0, 0, 1);
        due("eight", y.read(0, 8), 3);
        due("nine", y.read(0, 9), 1);
        RebusSigns nine = laid("sa;w0,aaaaaaaa;k1;");
        carve(nine, 0, 0, 0, 0, 0, 0, 0, 0, 0);
        due("nine sounds are too many letters", nine.read(0, 9), 0);
    }

    private static void onePictureAlone() {
        RebusSigns x = laid("p1,b;p2,b;sb;m0;w0,b;w1,b;w0,ba;k1;");
        carve(x, 0, 1, 2, 0, 3);
        due("its own word alone", x.read(0, 1), 2);
        due("no word of its class", x.read(1, 1), 7);
        due("a sound", x.read(2, 1), 7);
        due("with a mark it is not alone", x.read(3, 2), 5);
        due("b of class 1 is clear by its picture", x.word(1, 3), 1);
        due("b of class 0 is not, ba has its class", x.word(0, 3), 0);
        x.strike(0, 1);
        due("struck", x.read(0, 1), 0);
        due("by the other picture it is not clear", x.word(1, 3), 0);
        RebusSigns y = laid("p1,b;w1,ba;w0,b;k1;");
        carve(y, 0);
        due("a word of its class that is more than its sound", y.read(0, 1), 3);
    }

    private static void readings() {
        RebusSigns x = laid("sa;sb;w0,a;w1,a;w2,aa;w3,b;");
        due("of an empty one", x.readings(), 1);
        carve(x, 0);
        due("a", x.readings(), 2);
        carve(x, 0);
        due("a a, aa", x.readings(), 5);
        carve(x, 0);
        due("a a a, a aa, aa a", x.readings(), 12);
        carve(x, 1);
        due("and b", x.readings(), 12);
        x.strike(1, 1);
        due("b struck", x.readings(), 0);
        due("no reading", x.reading(-1), NONE);
        due("no first word", x.reading(0), NONE);
        due("no first row", x.cut(0), NONE);
        due("BAD is ahead of NONE", x.reading(-2), BAD);
        due("BAD is ahead of NONE", x.cut(-1), BAD);
        RebusSigns many = laid("sa;w0,aaaaaaaa;w1,aaaaaaaa;w2,aaaaaaaa;w3,aaaaaaaa;w4,aaaaaaaa;w5,aaaaaaaa;"
            + "w0,aaaaaaa;w1,aaaaaaa;k1;");
        carve(many, 0, 0, 0, 0, 0, 0, 0, 0, 0, 0, 0, 0, 0, 0, 0, 0);
        due("more than an int holds", many.readings(), manyReadings(16));
    }

    /** Rows of 1 to 7 signs are read as 8 words each, rows of 8 as 6. */
    private static long manyReadings(int signs) {
        long all = signs == 0 ? 1 : 0;
        for (int n = 1; n <= 8 && n <= signs; n++) {
            all += (n == 8 ? 6 : 8) * manyReadings(signs - n);
        }
        return all;
    }

    private static void theReading() {
        RebusSigns x = laid("sa;sb;w5,aa;w4,a;w3,ab;w2,a;w1,b;w0,aab;");
        dueReading("empty", x);
        carve(x, 0, 0, 1);
        dueReading("one word", x, 3, 5);
        carve(x, 0);
        dueReading("the lower word", x, 3, 5, 1, 1);
        RebusSigns y = laid("sa;sb;w5,aa;w4,a;w3,ab;w1,b;");
        carve(y, 0, 0, 1);
        dueReading("the shorter row ahead", y, 1, 1, 2, 2);
        y.chip();
        dueReading("fewest words", y, 2, 0);
        y.law(1);
        dueReading("loose", y, 2, 0);
        RebusSigns z = laid("sb;sn;w0,bon;w1,ban;w2,b;w3,n;k1;");
        carve(z, 0, 1, 1);
        dueReading("the lower of two", z, 2, 0, 1, 3);
        z.law(0);
        dueReading("strict", z, 1, 2, 1, 3, 1, 3);
        due("k = -2", z.reading(-2), BAD);
        due("k = -1", z.cut(-1), BAD);
        due("far", z.reading(Integer.MAX_VALUE), NONE);
        due("far", z.cut(Integer.MAX_VALUE), NONE);
        RebusSigns first = laid("sa;w0,aa;");
        carve(first, 0, 0);
        due("cut ahead of any other question", first.cut(0), 2);
        carve(first, 0, 0);
        due("cut is told of all as it stands then", first.cut(1), 2);
        RebusSigns nine = laid("sa;m0;w0,aaaaaaaa;w1,a;");
        carve(nine, 0, 0, 0, 0, 0, 0, 0, 0, 1);
        dueReading("a row of nine", nine, 9, 0);
    }

    private static void count() {
        RebusSigns x = laid("sb;sn;m0;w0,ba;w1,bo;w2,x;k1;");
        x.strike(1, 1);
        carve(x, 0, 2);
        int[] counts = {3, 3, 1, 1, 2, 2, 1, 1, 3, 29};
        for (int what = 0; what < counts.length; what++) {
            due("count(" + what + ")", x.count(what), counts[what]);
        }
        due("count(-1)", x.count(-1), BAD);
        due("count(10)", x.count(10), BAD);
    }

    /** No number may throw, and a BAD call changes nothing. */
    private static void wrongNumbers() {
        RebusSigns x = laid("sb;sn;m0;w0,ba;w1,bo;w2,x;k1;");
        carve(x, 0, 2);
        for (int a : NO_NUMBERS) {
            due("strike", x.strike(a, 1), BAD);
            due("carve", x.carve(a), BAD);
            due("law", x.law(a), BAD);
            due("mark", x.mark(a), BAD);
            due("writings", x.writings(a), BAD);
            due("count", x.count(a), BAD);
            for (int b : NO_NUMBERS) {
                due("strike", x.strike(a, b), BAD);
                due("sign", x.sign(a, b), BAD);
                due("sign", x.sign(0, b), BAD);
                due("word", x.word(a, b), BAD);
                due("word", x.word(0, b), BAD);
                due("least", x.least(a, b), BAD);
                due("read", x.read(a, b), BAD);
            }
        }
        due("nothing changed", x.count(8), 2);
        due("nothing changed", x.count(4), 2);
    }
}
