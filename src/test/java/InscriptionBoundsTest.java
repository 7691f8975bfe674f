/** The document's boundary sentences on the inscription, its readings, changes and what is undone. */
public final class InscriptionBoundsTest {
    private static final int BAD = Bounds.BAD, NO = Bounds.NO, FULL = Bounds.FULL, NONE = Bounds.NONE;
    private static final int[] FAR_OFF = {Integer.MIN_VALUE, -100, -1, 12, 100, Integer.MAX_VALUE};

    private static final Bounds b = new Bounds();

    public static void main(String[] args) {
        signsAtMost();
        cutIntoRows();
        fewestWords();
        shorterRowAhead();
        lowerWordAhead();
        whatIsAChange();
        lastSixCanBeUndone();
        behindLaidNone();
        strike();
        law();
        carve();
        chip();
        undo();
        carved();
        read();
        readings();
        reading();
        cut();
        count();
        b.finish();
    }

    private static void signsAtMost() {
        b.sentence("THE INSCRIPTION is SIGNS one behind the other (16 at most).");
        RebusSigns x = b.laid("sa;sb;sc;w0,a;w1,b;w2,c;");
        for (int i = 0; i < 16; i++) {
            b.due("carve " + i, x.carve(i % 3), i + 1);
        }
        b.due("carve 16", x.carve(0), FULL);
        b.due("carve 16 again", x.carve(2), FULL);
        b.due("count(4)", x.count(4), 16);
        for (int i = 0; i < 16; i++) {
            b.due("carved(" + i + ")", x.carved(i), i % 3);
        }
        b.due("carved(16)", x.carved(16), NONE);
        b.due("all 16 are read", x.reading(-1), 16);
        b.due("the last word", x.reading(15), 0);
        b.due("chip()", x.chip(), 0);
        b.due("there is room for one", x.carve(1), 16);
        b.due("the last word", x.reading(15), 1);
        b.due("and for no more", x.carve(1), FULL);
    }

    private static void cutIntoRows() {
        b.sentence("A READING of it cuts it into ROWS (each of 1 to 9 SIGNS) and tells for each one WORD as which it is READ.");
        RebusSigns x = b.laid("sa;m0;w0,aaaaaaaa;", 0, 0, 0, 0, 0, 0, 0);
        b.due("seven signs", x.readings(), 0);
        x.carve(0);
        b.due("eight", x.readings(), 1);
        x.carve(1);
        b.due("nine", x.readings(), 1);
        b.dueReading(x, 9, 0);
        x.carve(1);
        b.due("ten", x.readings(), 0);
        RebusSigns two = b.laid("sa;w0,aaaaaaaa;", 0, 0, 0, 0, 0, 0, 0, 0, 0, 0, 0, 0, 0, 0, 0);
        b.due("fifteen", two.readings(), 0);
        two.carve(0);
        b.dueReading(two, 8, 0, 8, 0);
        RebusSigns ones = b.laid("sa;w0,a;w1,a;", 0, 0, 0);
        b.due("of each row one of two words", ones.readings(), 8);
        RebusSigns marks = b.laid("sa;m0;w0,a;w0,aa;", 0, 1, 0, 0, 1);
        b.due("a m0, aa m0; a m0, a, a m0", marks.readings(), 2);
        b.dueReading(marks, 2, 0, 3, 1);
    }

    private static void fewestWords() {
        b.sentence("THE READING is that of the fewest WORDS");
        RebusSigns x = b.laid("sa;w0,a;w1,aa;w2,aaa;", 0, 0);
        b.dueReading(x, 2, 1);
        x.carve(0);
        b.dueReading(x, 3, 2);
        x.carve(0);
        b.dueReading(x, 1, 0, 3, 2);
        RebusSigns y = b.laid("sa;sb;w0,a;w1,b;w2,ab;w3,aba;w4,ba;", 0, 1, 0, 1);
        b.dueReading(y, 2, 2, 2, 2);
        RebusSigns end = b.laid("sa;sb;w0,ab;w1,a;w2,ba;w3,aab;", 0, 0, 1, 0);
        b.dueReading(end, 3, 3, 1, 1);
    }

    private static void shorterRowAhead() {
        b.sentence("of several the first (by its first ROW, the shorter ahead");
        RebusSigns x = b.laid("sa;w0,aaa;w1,aa;w2,a;", 0, 0, 0, 0);
        b.dueReading(x, 1, 2, 3, 0);
        Bounds.carve(x, 0);
        b.dueReading(x, 2, 1, 3, 0);
        Bounds.carve(x, 0, 0);
        b.dueReading(x, 1, 2, 3, 0, 3, 0);
        Bounds.carve(x, 0);
        b.dueReading(x, 2, 1, 3, 0, 3, 0);
        b.sentence("then by the next ROW, ..)");
        RebusSigns next = b.laid("sb;sa;w0,aaa;w1,aa;w2,a;w3,b;", 0, 1, 1, 1, 1);
        b.dueReading(next, 1, 3, 1, 2, 3, 0);
    }

    private static void lowerWordAhead() {
        b.sentence("then by the WORD of that, the lower ahead, then by the next ROW, ..)");
        RebusSigns x = b.laid("sa;sb;w5,x;w4,a;w3,a;w2,b;w1,b;w0,b;", 0, 1, 0);
        b.dueReading(x, 1, 1, 1, 3, 1, 1);
        b.due("2 * 3 * 2", x.readings(), 12);
        RebusSigns length = b.laid("sa;w0,aa;w1,aa;w2,a;w3,a;", 0, 0, 0);
        b.dueReading(length, 1, 2, 2, 0);
        RebusSigns eighth = b.laid("sa;w0,x;w1,x;w2,x;w3,x;w4,x;w5,x;w0,y;w1,a;", 0);
        b.dueReading(eighth, 1, 7);
        RebusSigns picture = b.laid("p1,a;sa;w0,a;w1,a;", 0, 1);
        b.dueReading(picture, 1, 1, 1, 0);
    }

    private static void whatIsAChange() {
        b.sentence("A change: a SIGN STRUCK or not, LAW told anew, a SIGN more behind THE INSCRIPTION, its last one less.");
        RebusSigns x = b.laid("sa;sb;w0,a;");
        x.strike(0, 1);
        b.due("a sign struck", x.count(8), 1);
        x.strike(0, 0);
        b.due("a sign not struck", x.count(8), 2);
        x.law(1);
        b.due("law told anew", x.count(8), 3);
        x.carve(1);
        b.due("a sign more", x.count(8), 4);
        x.chip();
        b.due("a sign less", x.count(8), 5);
        x.write('a');
        x.wipe();
        x.fault();
        x.lay();
        b.due("text and questions are none", x.count(8), 5);
        x.strike(0, 0);
        x.strike(2, 1);
        x.strike(0, 2);
        x.law(1);
        x.law(2);
        x.carve(2);
        x.chip();
        x.write(127);
        b.due("refused calls are none", x.count(8), 5);
        b.due("undo() is none", x.undo(), 4);
    }

    private static void lastSixCanBeUndone() {
        b.sentence("UNDONE is the latest change (the last 6 can be;");
        for (int changes = 0; changes <= 14; changes++) {
            RebusSigns x = b.laid("sa;sb;sc;w0,a;");
            for (int i = 0; i < changes; i++) {
                x.carve(i % 3);
            }
            int kept = Math.min(changes, 6);
            b.due("count(8) of " + changes, x.count(8), kept);
            for (int left = kept - 1; left >= 0; left--) {
                b.due("undo()", x.undo(), left);
                b.due("count(8)", x.count(8), left);
            }
            b.due("undo() of none", x.undo(), NO);
            b.due("what can't be undone stays", x.count(4), changes - kept);
            b.due("its last sign", x.carved(changes - kept - 1), changes == kept ? BAD : (changes - kept - 1) % 3);
        }
        RebusSigns struck = b.laid(Bounds.repeat("sa;", 12) + "w0,a;");
        for (int s = 0; s < 12; s++) {
            struck.strike(s, 1);
        }
        for (int s = 11; s >= 6; s--) {
            b.due("undo() strike of " + s, struck.undo(), s - 6);
            b.due("sign(" + s + ", 3)", struck.sign(s, 3), 0);
            b.due("the one ahead of it", struck.sign(s - 1, 3), 1);
        }
        b.due("six stay struck", struck.count(3), 6);
        RebusSigns chipped = b.laid("sa;sb;sc;sd;se;sf;sg;sh;w0,a;", 0, 1, 2, 3, 4, 5, 6, 7);
        for (int k = 7; k >= 0; k--) {
            chipped.chip();
        }
        for (int k = 0; k < 6; k++) {
            b.due("undo() chip of " + k, chipped.undo(), 5 - k);
            b.due("carved(" + k + ")", chipped.carved(k), k);
        }
        b.due("two stay away", chipped.undo(), NO);
        RebusSigns mixed = b.laid("sa;sb;w0,a;");
        mixed.strike(1, 1);
        mixed.law(1);
        mixed.strike(0, 1);
        mixed.carve(0);
        mixed.carve(1);
        mixed.chip();
        mixed.chip();
        b.due("undo() the second chip", mixed.undo(), 5);
        b.due("carved(0)", mixed.carved(0), 0);
        b.due("a change after that", mixed.law(0), 1);
        b.due("six again", mixed.count(8), 6);
        b.due("undo() the law", mixed.undo(), 5);
        b.due("count(2)", mixed.count(2), 1);
        b.due("undo() the first chip", mixed.undo(), 4);
        b.due("carved(1)", mixed.carved(1), 1);
        b.due("undo() the second carve", mixed.undo(), 3);
        b.due("undo() the first carve", mixed.undo(), 2);
        b.due("count(4)", mixed.count(4), 0);
        b.due("undo() strike of 0", mixed.undo(), 1);
        b.due("sign(0, 3)", mixed.sign(0, 3), 0);
        b.due("undo() the first law", mixed.undo(), 0);
        b.due("count(2)", mixed.count(2), 0);
        b.due("the strike of 1 is the seventh: it stays", mixed.undo(), NO);
        b.due("sign(1, 3)", mixed.sign(1, 3), 1);
        b.due("undone changes are gone", mixed.count(8), 0);
    }

    private static void behindLaidNone() {
        b.sentence("behind LAID none can be");
        RebusSigns x = b.laid("sa;w0,a;", 0, 0, 0);
        b.due("count(8)", x.count(8), 3);
        b.due("lay()", x.lay(), 1);
        b.due("count(8) behind it", x.count(8), 0);
        b.due("undo()", x.undo(), NO);
        x.strike(0, 1);
        b.due("a change behind it", x.undo(), 0);
        b.due("no more", x.undo(), NO);
        x.law(1);
        x.write('?');
        b.due("lay() of a faulty text", x.lay(), NO);
        b.due("it is not laid: the change can be undone", x.undo(), 0);
        b.due("count(2)", x.count(2), 0);
    }

    private static void strike() {
        b.sentence("A SIGN is STRUCK (is = 1) or not (0): how many are then. BAD; NO: it is so.");
        RebusSigns x = b.laid(Bounds.repeat("sa;", 4) + Bounds.repeat("m0;", 4) + Bounds.repeat("p0,a;", 4) + "w0,a;");
        for (int s = 0; s < 12; s++) {
            b.due("strike(" + s + ", 0)", x.strike(s, 0), NO);
            b.due("strike(" + s + ", 1)", x.strike(s, 1), s + 1);
            b.due("strike(" + s + ", 1) again", x.strike(s, 1), NO);
        }
        b.due("count(3)", x.count(3), 12);
        for (int s = 0; s < 12; s++) {
            b.due("strike(" + s + ", 0)", x.strike(s, 0), 11 - s);
            b.due("strike(" + s + ", 0) again", x.strike(s, 0), NO);
        }
        for (int s : FAR_OFF) {
            for (int is = -1; is <= 2; is++) {
                b.due("strike(" + s + ", " + is + ")", x.strike(s, is), BAD);
            }
        }
        for (int is : new int[] {Integer.MIN_VALUE, -1, 2, 3, Integer.MAX_VALUE}) {
            b.due("strike(0, " + is + ")", x.strike(0, is), BAD);
            b.due("strike(11, " + is + ")", x.strike(11, is), BAD);
        }
        RebusSigns one = b.laid("sa;w0,a;");
        b.due("strike(1, 1) of one sign", one.strike(1, 1), BAD);
        b.due("strike(1, 0): BAD is ahead of NO", one.strike(1, 0), BAD);
        b.due("strike(0, 1)", one.strike(0, 1), 1);
    }

    private static void law() {
        b.sentence("LAW is told anew (0, 1): what it was. BAD; NO: it is so.");
        RebusSigns x = b.laid("sa;w0,a;");
        b.due("law(0)", x.law(0), NO);
        b.due("law(1)", x.law(1), 0);
        b.due("law(1) again", x.law(1), NO);
        for (int l : new int[] {Integer.MIN_VALUE, -2, -1, 2, 3, Integer.MAX_VALUE}) {
            b.due("law(" + l + ")", x.law(l), BAD);
        }
        b.due("count(2)", x.count(2), 1);
        b.due("law(0)", x.law(0), 1);
        b.due("count(2)", x.count(2), 0);
        b.due("two changes", x.count(8), 2);
    }

    private static void carve() {
        b.sentence("A SIGN (STRUCK or not) more behind THE INSCRIPTION: how many it has. BAD; FULL.");
        RebusSigns x = b.laid("sa;m0;w0,a;");
        x.strike(1, 1);
        for (int i = 1; i <= 16; i++) {
            for (int s : FAR_OFF) {
                b.due("carve(" + s + ")", x.carve(s), BAD);
            }
            b.due("carve(2) of two signs", x.carve(2), BAD);
            b.due("carve of a sign, struck or not", x.carve(i % 2), i);
        }
        b.due("carve(0)", x.carve(0), FULL);
        b.due("carve(1), struck", x.carve(1), FULL);
        b.due("carve(2): BAD is ahead of FULL", x.carve(2), BAD);
        b.due("carve(-1): BAD is ahead of FULL", x.carve(-1), BAD);
        x.chip();
        x.chip();
        b.due("a struck sign is told by carved", x.carved(12), 1);
        b.due("but not read", x.read(12, 1), 0);
    }

    private static void chip() {
        b.sentence("The last SIGN of THE INSCRIPTION less: which it was. NO: it is empty.");
        RebusSigns x = b.laid("sa;sb;w0,a;");
        b.due("of none", x.chip(), NO);
        Bounds.carve(x, 0, 1, 0);
        b.due("chip()", x.chip(), 0);
        b.due("chip()", x.chip(), 1);
        b.due("chip()", x.chip(), 0);
        b.due("of none", x.chip(), NO);
        b.due("count(4)", x.count(4), 0);
        b.due("three carved, three chipped", x.count(8), 6);
        RebusSigns full = b.laid("sa;sb;w0,a;", 0, 0, 0, 0, 0, 0, 0, 0, 0, 0, 0, 0, 0, 0, 0, 1);
        b.due("chip() of 16", full.chip(), 1);
        b.due("undo()", full.undo(), 5);
        b.due("16 again", full.carved(15), 1);
        b.due("full again", full.carve(0), FULL);
        full.strike(1, 1);
        b.due("chip() of a struck one", full.chip(), 1);
    }

    private static void undo() {
        b.sentence("UNDONE: how many more can be. NO.");
        RebusSigns x = b.laid("sa;sb;w0,a;w1,ba;");
        b.due("undo() of none", x.undo(), NO);
        x.strike(1, 1);
        x.strike(0, 1);
        x.strike(1, 0);
        b.due("undo() of not struck", x.undo(), 2);
        b.due("sign(1, 3)", x.sign(1, 3), 1);
        b.due("undo() of struck", x.undo(), 1);
        b.due("sign(0, 3)", x.sign(0, 3), 0);
        b.due("writings", x.writings(0), 1);
        b.due("undo()", x.undo(), 0);
        b.due("writings", x.writings(1), 1);
        b.due("undo() of none", x.undo(), NO);
        b.due("undo() of none again", x.undo(), NO);
        x.carve(1);
        b.due("undo() of carve", x.undo(), 0);
        b.due("carved(0)", x.carved(0), NONE);
        x.carve(1);
        x.chip();
        b.due("undo() of chip", x.undo(), 1);
        b.due("carved(0)", x.carved(0), 1);
        x.law(1);
        b.due("undo() of law", x.undo(), 1);
        b.due("count(2)", x.count(2), 0);
    }

    private static void carved() {
        b.sentence("The k-th SIGN of THE INSCRIPTION. BAD (k below 0); NONE: not so many.");
        RebusSigns x = b.laid("sa;sb;w0,a;");
        b.due("of none: carved(0)", x.carved(0), NONE);
        b.due("of none: carved(-1)", x.carved(-1), BAD);
        Bounds.carve(x, 1, 0, 1);
        b.due("carved(0)", x.carved(0), 1);
        b.due("carved(1)", x.carved(1), 0);
        b.due("carved(2)", x.carved(2), 1);
        b.due("carved(3)", x.carved(3), NONE);
        x.chip();
        b.due("carved(2) after chip", x.carved(2), NONE);
        for (int k : new int[] {16, 17, 1000, Integer.MAX_VALUE}) {
            b.due("carved(" + k + ")", x.carved(k), NONE);
        }
        for (int k : new int[] {-1, -2, -1000, Integer.MIN_VALUE}) {
            b.due("carved(" + k + ")", x.carved(k), BAD);
        }
    }

    private static void read() {
        b.sentence("As which WORDS the ROW of n SIGNS (1 to 9) of THE INSCRIPTION from the i-th on is READ, as bits. BAD; NO: "
            + "there are not so many.");
        RebusSigns x = b.laid("sa;m0;w0,aaaaaaaa;w1,a;");
        b.due("of none: read(0, 1)", x.read(0, 1), NO);
        b.due("of none: read(0, 9)", x.read(0, 9), NO);
        b.due("of none: read(0, 0)", x.read(0, 0), BAD);
        b.due("of none: read(0, 10)", x.read(0, 10), BAD);
        b.due("of none: read(-1, 1)", x.read(-1, 1), BAD);
        Bounds.carve(x, 0, 0, 0, 0, 0, 0, 0, 0);
        b.due("read(0, 9) of eight", x.read(0, 9), NO);
        b.due("read(0, 8) of eight", x.read(0, 8), 1);
        b.due("read(1, 8) of eight", x.read(1, 8), NO);
        b.due("read(7, 1) of eight", x.read(7, 1), 2);
        b.due("read(8, 1) of eight", x.read(8, 1), NO);
        Bounds.carve(x, 1);
        b.due("read(0, 9) of nine", x.read(0, 9), 1);
        b.due("read(1, 9) of nine", x.read(1, 9), NO);
        b.due("read(0, 10) of nine", x.read(0, 10), BAD);
        Bounds.carve(x, 0, 0, 0, 0, 0, 0, 0);
        b.due("read(0, 10) of 16", x.read(0, 10), BAD);
        b.due("read(7, 9) of 16", x.read(7, 9), 0);
        b.due("read(8, 9) of 16", x.read(8, 9), NO);
        b.due("read(15, 1) of 16", x.read(15, 1), 2);
        b.due("read(15, 2) of 16", x.read(15, 2), NO);
        b.due("read(16, 1) of 16", x.read(16, 1), NO);
        for (int n : new int[] {Integer.MIN_VALUE, -1, 0, 10, 16, Integer.MAX_VALUE}) {
            b.due("read(0, " + n + ")", x.read(0, n), BAD);
            b.due("BAD is ahead of NO: read(16, " + n + ")", x.read(16, n), BAD);
        }
        for (int n = 1; n <= 9; n++) {
            b.due("read(-1, " + n + ")", x.read(-1, n), BAD);
            b.due("read of the least number", x.read(Integer.MIN_VALUE, n), BAD);
            b.due("read of the largest number, no wrap-around", x.read(Integer.MAX_VALUE, n), NO);
            b.due("read of nearly the largest number", x.read(Integer.MAX_VALUE - 8, n), NO);
        }
    }

    private static void readings() {
        b.sentence("How many READINGS there are (1 of an empty one).");
        RebusSigns x = b.laid("sa;sb;w0,a;");
        b.due("of an empty one", x.readings(), 1);
        x.carve(0);
        b.due("of one", x.readings(), 1);
        x.carve(1);
        b.due("no reading", x.readings(), 0);
        x.chip();
        x.chip();
        b.due("empty again", x.readings(), 1);
        x.strike(0, 1);
        b.due("empty, whatever is struck", x.readings(), 1);
        RebusSigns many = b.laid("sa;w0,a;w1,a;w2,a;w3,a;w4,a;w5,a;w0,ae;w1,ae;k1;",
            0, 0, 0, 0, 0, 0, 0, 0, 0, 0, 0, 0, 0, 0, 0, 0);
        b.due("8 to the 16th: more than an int holds", many.readings(), 1L << 48);
        RebusSigns most = b.laid("sa;w0,aaaaaaaa;w1,aaaaaaaa;w2,aaaaaaaa;w3,aaaaaaaa;w4,aaaaaaaa;w5,aaaaaaaa;w0,aaaaaaae;"
            + "w1,aaaaaaae;k1;", 0, 0, 0, 0, 0, 0, 0, 0, 0, 0, 0, 0, 0, 0, 0, 0);
        b.due("rows of 1 to 7 by 8 words, of 8 by 6", most.readings(), rowsOfSeven(16));
    }

    private static long rowsOfSeven(int signs) {
        long[] ways = new long[signs + 1];
        ways[0] = 1;
        for (int end = 1; end <= signs; end++) {
            for (int n = 1; n <= 8 && n <= end; n++) {
                ways[end] += (n == 8 ? 6 : 8) * ways[end - n];
            }
        }
        return ways[signs];
    }

    private static void reading() {
        b.sentence("THE READING: how many WORDS (k = -1), the k-th WORD (0 the first). BAD (k below -1); NONE: there is none, not "
            + "so many.");
        RebusSigns x = b.laid("sa;sb;w0,b;w1,a;");
        b.due("of an empty one: how many", x.reading(-1), 0);
        b.due("of an empty one: the first", x.reading(0), NONE);
        b.due("of an empty one: below", x.reading(-2), BAD);
        Bounds.carve(x, 0, 1);
        b.due("reading(-1)", x.reading(-1), 2);
        b.due("reading(0)", x.reading(0), 1);
        b.due("reading(1)", x.reading(1), 0);
        for (int k : new int[] {2, 3, 15, 16, 17, 1000, Integer.MAX_VALUE}) {
            b.due("reading(" + k + ")", x.reading(k), NONE);
        }
        for (int k : new int[] {-2, -3, -1000, Integer.MIN_VALUE}) {
            b.due("reading(" + k + ")", x.reading(k), BAD);
        }
        x.strike(1, 1);
        for (int k : new int[] {-1, 0, 1, 2, Integer.MAX_VALUE}) {
            b.due("there is none: reading(" + k + ")", x.reading(k), NONE);
        }
        b.due("BAD is ahead of NONE", x.reading(-2), BAD);
    }

    private static void cut() {
        b.sentence("How many SIGNS the k-th ROW of THE READING has. BAD (k below 0); NONE: there is none, not so many.");
        RebusSigns x = b.laid("sa;sb;m0;w0,ab;w1,a;");
        b.due("of an empty one: the first", x.cut(0), NONE);
        b.due("of an empty one: below", x.cut(-1), BAD);
        Bounds.carve(x, 0, 0, 1, 2);
        b.due("cut(0)", x.cut(0), 1);
        b.due("cut(1)", x.cut(1), 3);
        for (int k : new int[] {2, 3, 15, 16, 17, 1000, Integer.MAX_VALUE}) {
            b.due("cut(" + k + ")", x.cut(k), NONE);
        }
        for (int k : new int[] {-1, -2, -1000, Integer.MIN_VALUE}) {
            b.due("cut(" + k + ")", x.cut(k), BAD);
        }
        x.strike(2, 1);
        for (int k : new int[] {0, 1, 2, Integer.MAX_VALUE}) {
            b.due("there is none: cut(" + k + ")", x.cut(k), NONE);
        }
        b.due("BAD is ahead of NONE", x.cut(-1), BAD);
        x.chip();
        b.due("without the mark: cut(1)", x.cut(1), 2);
    }

    private static void count() {
        b.sentence("How many: 0 SIGNS, 1 WORDS, 2 LAW, 3 STRUCK, 4 SIGNS of THE INSCRIPTION, 5 WORDS that have a WRITING, 6 that "
            + "are CLEAR (with a MARK or without), 7 pairs that are MIXED, 8 changes that can be UNDONE, 9 letters of THE TEXT. "
            + "BAD.");
        RebusSigns least = b.laid("m0;w0,a;");
        dueCounts(least, 1, 1, 0, 0, 0, 0, 0, 0, 0, 8);
        RebusSigns x = b.laid("sb;sn;m0;m5;w0,ba;w1,bo;w2,x;w3,na;k1;", 0, 2, 3);
        x.strike(3, 1);
        dueCounts(x, 4, 4, 1, 1, 3, 3, 2, 1, 4, 38);
        RebusSigns most = b.laid(Bounds.repeat("sb;", 12) + "w0,b;w1,b;w2,b;w3,b;w4,b;w5,b;w0,ba;w1,ba;k1;",
            0, 0, 0, 0, 0, 0, 0, 0, 0, 0, 0, 0, 0, 0, 0, 0);
        dueCounts(most, 12, 8, 1, 0, 16, 8, 0, 28, 6, 81);
        for (int what : new int[] {Integer.MIN_VALUE, -2, -1, 10, 11, 100, Integer.MAX_VALUE}) {
            b.due("count(" + what + ")", x.count(what), BAD);
        }
    }

    private static void dueCounts(RebusSigns x, int... counts) {
        for (int what = 0; what < counts.length; what++) {
            b.due("count(" + what + ")", x.count(what), counts[what]);
        }
    }
}
