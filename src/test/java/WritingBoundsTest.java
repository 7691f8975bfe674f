/** The document's boundary sentences on writings, least writings, clear and mixed words. */
public final class WritingBoundsTest {
    private static final int BAD = Bounds.BAD, NONE = Bounds.NONE;
    private static final String[] EIGHTS = {"b", "bb", "bbb", "bbbb", "bbbbb", "bbbbbb", "bbbbbbb", "bbbbbbbb"};

    private static final Bounds b = new Bounds();

    public static void main(String[] args) {
        vowels();
        rowLength();
        noneStruck();
        markLast();
        aSoundAtLeast();
        strict();
        leftOutWhere();
        leftOutHowMany();
        fewestSigns();
        fewestLeftOut();
        firstOfSeveral();
        readAsAll();
        onePictureAlone();
        clear();
        mixed();
        signNumbers();
        signAnswers();
        signInLeast();
        wordNumbers();
        wordAnswers();
        least();
        mark();
        writings();
        b.finish();
    }

    private static void vowels() {
        b.sentence("VOWELS a, e, i, o, u.");
        for (char letter = 'a'; letter <= 'z'; letter++) {
            boolean vowel = "aeiou".indexOf(letter) >= 0;
            String other = letter == 'q' ? "x" : "q";
            RebusSigns x = b.laid("s" + other + ";w0," + letter + other + ";w1," + other + letter + ";w2," + other + letter
                + other + ";k1;");
            b.due("word(0, 2) of " + letter, x.word(0, 2), vowel ? 1 : 0);
            b.due("left out ahead: " + letter, x.least(0, -2), vowel ? 1 : NONE);
            b.due("left out behind: " + letter, x.least(1, -2), vowel ? 1 : NONE);
            b.due("left out between: " + letter, x.least(2, -2), vowel ? 1 : NONE);
        }
        RebusSigns x = b.laid("sb;w0,aeiouaei;w1,bcdfghjk;w2,ybay;");
        b.due("eight of eight", x.word(0, 2), 8);
        b.due("none of eight", x.word(1, 2), 0);
        b.due("y is none", x.word(2, 2), 1);
    }

    private static void rowLength() {
        b.sentence("A ROW of SIGNS (1 to 9)");
        for (int n = 1; n <= 8; n++) {
            RebusSigns x = b.laid("sb;m0;w0," + EIGHTS[n - 1] + ";w1," + EIGHTS[n - 1] + ";");
            int[] row = new int[n];
            b.dueLeast(x, 0, 0, row);
            b.due("a row of " + n + " and one with a mark", x.writings(0), 2);
            b.dueRead(x, 3, row);
            int[] marked = new int[n + 1];
            marked[n] = 1;
            b.dueRead(x, 1, marked);
            b.due("clear by " + (n + 1) + " signs", x.word(0, 3), 2);
            b.due("its mark", x.mark(0), 1);
        }
        RebusSigns nine = b.laid("sb;w0,bbbbbbbb;");
        b.dueRead(nine, 0, 0, 0, 0, 0, 0, 0, 0, 0, 0);
    }

    private static void noneStruck() {
        b.sentence("none of them STRUCK");
        RebusSigns x = b.laid("sb;sn;sn;m0;w0,bn;");
        b.due("writings(0)", x.writings(0), 4);
        b.dueRead(x, 1, 0, 1, 3);
        x.strike(3, 1);
        b.due("a mark struck", x.writings(0), 2);
        b.dueRead(x, 0, 0, 1, 3);
        b.dueRead(x, 1, 0, 1);
        x.strike(1, 1);
        b.due("the last sound struck", x.writings(0), 1);
        b.dueRead(x, 0, 0, 1);
        b.dueRead(x, 1, 0, 2);
        b.dueLeast(x, 0, 0, 0, 2);
        x.strike(0, 1);
        b.dueNoLeast(x, 0);
        b.dueRead(x, 0, 0, 2);
        x.strike(0, 0);
        b.due("not struck any more", x.writings(0), 1);
        b.dueRead(x, 1, 0, 2);
        RebusSigns all = b.laid("sb;p0,b;m0;w0,b;");
        for (int s = 0; s < 3; s++) {
            all.strike(s, 1);
        }
        b.dueNoLeast(all, 0);
        b.dueRead(all, 0, 1);
    }

    private static void markLast() {
        b.sentence("all have SOUNDS but for the last one, which may be a MARK of the CLASS of the WORD");
        RebusSigns x = b.laid("sb;sn;m0;m1;m0;w0,bn;w1,bn;w2,bn;");
        b.dueRead(x, 7, 0, 1);
        b.dueRead(x, 1, 0, 1, 2);
        b.dueRead(x, 1, 0, 1, 4);
        b.dueRead(x, 2, 0, 1, 3);
        b.dueRead(x, 0, 2, 0, 1);
        b.dueRead(x, 0, 0, 2, 1);
        b.dueRead(x, 0, 0, 2);
        b.dueRead(x, 0, 0, 1, 2, 2);
        b.dueRead(x, 0, 0, 1, 2, 4);
        b.dueRead(x, 0, 0, 1, 3, 2);
        b.dueRead(x, 0, 0, 1, 2, 1);
        b.due("two marks of class 0, or none", x.writings(0), 3);
        b.due("one mark of class 1, or none", x.writings(1), 2);
        b.due("no mark of class 2", x.writings(2), 1);
        RebusSigns loose = b.laid("sb;sn;m0;w0,bana;k1;");
        b.dueRead(loose, 1, 0, 1, 2);
        b.dueRead(loose, 0, 0, 2, 1);
        b.dueRead(loose, 0, 2, 0, 1);
    }

    private static void aSoundAtLeast() {
        b.sentence("(one SIGN at least has a SOUND)");
        RebusSigns x = b.laid("m0;m0;w0,a;w0,aeiouaei;k1;");
        b.dueRead(x, 0, 0);
        b.dueRead(x, 0, 0, 1);
        b.dueNoLeast(x, 0);
        b.dueNoLeast(x, 1);
        b.due("words that have a writing", x.count(5), 0);
        b.due("clear words", x.count(6), 0);
        RebusSigns y = b.laid("m0;se;w0,a;w0,e;w0,ae;k1;");
        b.dueNoLeast(y, 0);
        b.dueRead(y, 0, 0);
        b.dueRead(y, 6, 1);
        b.dueRead(y, 6, 1, 0);
        b.due("words that have a writing", y.count(5), 2);
    }

    private static void strict() {
        b.sentence("by LAW STRICT one behind the other are the WORD");
        RebusSigns x = b.laid("sb;sa;san;sn;w0,ban;w1,ba;w2,bana;w3,an;k0;");
        b.dueRead(x, 1, 0, 2);
        b.dueRead(x, 1, 0, 1, 3);
        b.dueRead(x, 2, 0, 1);
        b.dueRead(x, 4, 0, 2, 1);
        b.dueRead(x, 8, 2);
        b.dueRead(x, 0, 0, 3);
        b.dueRead(x, 0, 2, 0);
        b.dueRead(x, 0, 0);
        b.dueRead(x, 0, 0, 2, 3);
        RebusSigns over = b.laid("sb;sbc;sbb;w0,bbbbbbbb;w1,bb;");
        b.dueRead(over, 0, 0, 0, 0, 0, 0, 0, 0, 1);
        b.dueRead(over, 0, 0, 0, 0, 0, 0, 0, 0, 2);
        b.dueRead(over, 1, 0, 0, 0, 0, 0, 0, 2);
        b.dueRead(over, 0, 0, 2);
        b.dueRead(over, 2, 2);
        RebusSigns shorter = b.laid("sbcd;w0,bcd;");
        Bounds.tell(shorter, "sbcd;w0,b;");
        shorter.lay();
        shorter.lay();
        b.dueRead(shorter, 0, 0);
        b.dueNoLeast(shorter, 0);
        Bounds.tell(shorter, "sb;w0,bcd;");
        shorter.lay();
        shorter.lay();
        b.dueRead(shorter, 0, 0);
        b.due("ban: b an, b a n", x.writings(0), 2);
        b.due("ba: b a", x.writings(1), 1);
        b.due("bana: b an a, b a n a", x.writings(2), 2);
        b.dueLeast(x, 0, 0, 0, 2);
    }

    private static void leftOutWhere() {
        b.sentence("by LOOSE are so, when VOWELS of the WORD are LEFT OUT that are between SOUNDS, ahead of the first or "
            + "behind the last (none within a SOUND)");
        RebusSigns x = b.laid("sb;sn;sbn;w0,ban;w1,abn;w2,bna;w3,aebiuneo;w4,bn;w5,bsn;k1;");
        b.dueRead(x, 31, 0, 1);
        b.dueRead(x, 22, 2);
        b.due("between: b n", x.writings(0), 1);
        b.due("ahead: b n, bn", x.writings(1), 2);
        b.due("behind: b n, bn", x.writings(2), 2);
        b.due("several everywhere: b n", x.writings(3), 1);
        b.due("none at all: b n, bn", x.writings(4), 2);
        b.dueNoLeast(x, 5);
        RebusSigns again = b.laid("sab;sb;sn;w0,aab;w1,aeab;w2,abab;w3,baan;k1;");
        b.dueRead(again, 3, 0);
        b.dueRead(again, 3, 1);
        b.dueRead(again, 4, 0, 0);
        b.dueRead(again, 4, 0, 1);
        b.dueRead(again, 4, 1, 0);
        b.dueRead(again, 8, 1, 2);
        b.dueRead(again, 0, 0, 2);
        RebusSigns turns = b.laid("saa;sa;w0,aaaa;w1,aeaa;k1;");
        b.dueRead(turns, 3, 0);
        b.dueRead(turns, 1, 0, 0);
        b.dueRead(turns, 3, 1, 0);
        b.dueRead(turns, 1, 0, 1);
        b.dueRead(turns, 1, 0, 1, 1);
        b.dueRead(turns, 3, 1, 1, 1);
        b.dueRead(turns, 1, 1, 1, 1, 1);
    }

    private static void leftOutHowMany() {
        b.sentence("How many are LEFT OUT is how many LETTERS the WORD has more than the SOUNDS.");
        RebusSigns x = b.laid("sb;sba;w0,b;w1,ob;w2,ebie;w3,baaaaaaa;w4,oeaiuoab;k1;");
        b.dueLeast(x, 0, 0, 0);
        b.dueLeast(x, 1, 1, 0);
        b.dueLeast(x, 2, 3, 0);
        b.dueLeast(x, 3, 6, 1);
        b.dueLeast(x, 4, 7, 0);
        x.law(0);
        b.dueLeast(x, 0, 0, 0);
        b.dueNoLeast(x, 1);
    }

    private static void fewestSigns() {
        b.sentence("of those without a MARK that of the fewest SIGNS");
        RebusSigns x = b.laid("sb;sa;sn;m0;sban;w0,ban;");
        b.dueLeast(x, 0, 0, 4);
        x.strike(4, 1);
        b.dueLeast(x, 0, 0, 0, 1, 2);
        x.law(1);
        b.dueLeast(x, 0, 1, 0, 2);
        RebusSigns y = b.laid("sbana;san;sb;sa;w0,bananas;w1,banana;k1;");
        b.dueNoLeast(y, 0);
        b.dueLeast(y, 1, 1, 2, 1, 1);
        y.law(0);
        b.dueLeast(y, 1, 0, 2, 1, 1, 3);
    }

    private static void fewestLeftOut() {
        b.sentence("of several that by which the fewest LETTERS are LEFT OUT");
        RebusSigns x = b.laid("sb;sba;sn;sna;w0,bana;k1;");
        b.dueLeast(x, 0, 0, 1, 3);
        x.strike(3, 1);
        b.dueLeast(x, 0, 1, 1, 2);
        x.strike(3, 0);
        x.strike(1, 1);
        b.dueLeast(x, 0, 1, 0, 3);
        x.strike(3, 1);
        b.dueLeast(x, 0, 2, 0, 2);
        RebusSigns one = b.laid("sb;seb;sebo;sbo;w0,ebo;k1;");
        b.dueLeast(one, 0, 0, 2);
        RebusSigns vowels = b.laid("sa;sea;saea;w0,eaea;k1;");
        b.dueLeast(vowels, 0, 1, 2);
    }

    private static void firstOfSeveral() {
        b.sentence("of several the first (by its first SIGN, the lower number ahead, then by the next)");
        RebusSigns x = b.laid("sba;sn;sb;san;sb;w0,ban;");
        b.dueLeast(x, 0, 0, 0, 1);
        x.strike(0, 1);
        b.dueLeast(x, 0, 0, 2, 3);
        x.strike(2, 1);
        b.dueLeast(x, 0, 0, 4, 3);
        RebusSigns next = b.laid("sn;sb;sn;sn;w0,bn;");
        b.dueLeast(next, 0, 0, 1, 0);
        next.strike(0, 1);
        b.dueLeast(next, 0, 0, 1, 2);
        next.strike(2, 1);
        b.dueLeast(next, 0, 0, 1, 3);
        RebusSigns kinds = b.laid("sb;p0,b;w0,b;");
        b.dueLeast(kinds, 0, 0, 0);
        RebusSigns turned = b.laid("p0,b;sb;w0,b;");
        b.dueLeast(turned, 0, 0, 0);
        RebusSigns last = b.laid("m0;m0;m0;m0;m0;m0;m0;m0;m0;m0;m0;sb;w0,bb;");
        b.dueLeast(last, 0, 0, 11, 11);
        RebusSigns loose = b.laid("san;sn;sba;sb;w0,ban;k1;");
        b.dueLeast(loose, 0, 0, 2, 1);
    }

    private static void readAsAll() {
        b.sentence("READ a ROW is as WORDS: as all of which it is a WRITING");
        RebusSigns x = b.laid("sb;sx;w0,b;w1,b;w2,ba;w3,eb;w4,bb;w5,bo;w0,ib;w1,u;k1;");
        b.dueRead(x, 0x6f, 0);
        b.dueRead(x, 0, 1);
        b.dueRead(x, 0x10, 0, 0);
        RebusSigns all = b.laid("sb;w0,b;w1,b;w2,b;w3,b;w4,b;w5,b;w0,ba;w1,ba;k1;");
        b.dueRead(all, 0xff, 0);
        all.law(0);
        b.dueRead(all, 0x3f, 0);
        all.strike(0, 1);
        b.dueRead(all, 0, 0);
        RebusSigns last = b.laid("sb;w0,a;w1,a;w2,a;w3,a;w4,a;w5,a;w0,e;w1,b;");
        b.dueRead(last, 0x80, 0);
    }

    private static void onePictureAlone() {
        b.sentence("but a ROW that is one PICTURE alone, not STRUCK, if there is a WORD of its CLASS that is just its SOUND, "
            + "as that alone");
        RebusSigns x = b.laid("p1,b;sb;p2,b;m1;p1,bo;w0,b;w1,b;w1,bo;w1,ba;k1;");
        b.dueRead(x, 2, 0);
        b.dueRead(x, 15, 1);
        b.dueRead(x, 15, 2);
        b.dueRead(x, 14, 0, 3);
        b.dueRead(x, 4, 4);
        x.strike(0, 1);
        b.dueRead(x, 0, 0);
        x.strike(0, 0);
        x.law(0);
        b.dueRead(x, 2, 0);
        b.dueRead(x, 3, 2);
        RebusSigns more = b.laid("p1,b;w1,ba;w1,ab;w0,b;k1;");
        b.dueRead(more, 7, 0);
        RebusSigns less = b.laid("p1,ba;w1,b;w0,ba;k1;");
        b.dueRead(less, 2, 0);
        RebusSigns two = b.laid("p1,b;w1,bb;w0,bb;w1,b;k1;");
        b.dueRead(two, 3, 0, 0);
        b.dueRead(two, 4, 0);
        RebusSigns last = b.laid("p5,z;w0,z;w1,z;w2,z;w3,z;w4,z;w5,az;w5,za;w5,z;k1;");
        b.dueRead(last, 0x80, 0);
        RebusSigns first = b.laid("p0,abcd;w0,abcd;w1,abcd;w0,abcda;k1;");
        b.dueRead(first, 1, 0);
        RebusSigns mark = b.laid("m1;sa;w1,a;k1;");
        b.dueRead(mark, 0, 0);
    }

    private static void clear() {
        b.sentence("CLEAR is a WORD by its LEAST WRITING, if that is READ as it alone; else by that with a MARK behind it, "
            + "the lowest of its CLASS that is not STRUCK, if that is; else it is not.");
        RebusSigns x = b.laid("sb;m1;m0;m0;w0,b;w1,ba;k1;");
        b.due("with a mark", x.word(0, 3), 2);
        b.due("the lowest of its class", x.mark(0), 2);
        b.due("the other with its own", x.mark(1), 1);
        b.due("both are clear", x.count(6), 2);
        x.strike(2, 1);
        b.due("the lowest that is not struck", x.mark(0), 3);
        x.strike(3, 1);
        b.due("no mark left: not clear", x.word(0, 3), 0);
        b.due("no mark left", x.mark(0), NONE);
        b.due("one is clear", x.count(6), 1);
        x.law(0);
        b.due("strict: alone, no mark is needed", x.word(0, 3), 1);
        b.due("strict: no mark", x.mark(0), NONE);
        b.due("strict: ba has no writing", x.word(1, 3), 0);
        RebusSigns same = b.laid("sb;m0;m1;w0,b;w0,ba;w1,bo;k1;");
        b.due("a word of its class has that mark too", same.word(0, 3), 0);
        b.due("no mark", same.mark(0), NONE);
        b.due("alone in its class", same.mark(2), 2);
        RebusSigns picture = b.laid("p0,b;m1;m2;w0,b;w1,b;w2,b;w3,b;");
        b.due("its picture", picture.word(0, 3), 1);
        b.due("read as another word, so it takes a mark", picture.word(1, 3), 2);
        b.due("the mark", picture.mark(1), 1);
        b.due("the mark of class 2", picture.mark(2), 2);
        b.due("class 3 has no mark", picture.word(3, 3), 0);
        b.due("three are clear", picture.count(6), 3);
        RebusSigns none = b.laid("sa;w0,aa;w1,a;k1;");
        b.due("no mark: no other sign stands for one", none.word(0, 3), 0);
        b.due("no mark", none.mark(0), NONE);
        RebusSigns least = b.laid("sba;sb;sa;m0;w0,ba;w1,ba;w2,b;");
        b.due("only the least writing counts", least.word(1, 3), 0);
        b.due("b", least.word(2, 3), 1);
    }

    private static void mixed() {
        b.sentence("Two WORDS are MIXED, if they have LEAST WRITINGS and these are alike.");
        RebusSigns x = b.laid("sb;sn;w0,b;w1,ba;w2,bo;w3,x;w4,x;w5,bn;w0,bbn;k1;");
        for (int w = 0; w < 3; w++) {
            b.due("word(" + w + ", 4)", x.word(w, 4), 2);
        }
        for (int w = 3; w < 7; w++) {
            b.due("word(" + w + ", 4)", x.word(w, 4), 0);
        }
        b.due("pairs", x.count(7), 3);
        RebusSigns all = b.laid("sb;w0,b;w1,b;w2,b;w3,b;w4,b;w5,b;w0,ba;w1,ba;k1;");
        b.due("all eight: with seven others", all.word(0, 4), 7);
        b.due("all eight: with seven others", all.word(7, 4), 7);
        b.due("all eight: 28 pairs", all.count(7), 28);
        all.strike(0, 1);
        b.due("none has a writing: no pairs", all.count(7), 0);
        b.due("none has a writing: with no other", all.word(0, 4), 0);
        RebusSigns order = b.laid("sb;sn;w0,bn;w1,nb;w2,nnb;");
        b.due("the same signs in another order are not alike", order.count(7), 0);
        RebusSigns one = b.laid("sb;w0,b;");
        b.due("a word is not mixed with itself", one.word(0, 4), 0);
        b.due("nor a pair", one.count(7), 0);
        RebusSigns ahead = b.laid("sb;w0,b;w1,bb;");
        b.due("one that goes on is not alike", ahead.count(7), 0);
        RebusSigns marked = b.laid("sb;m0;m1;w0,b;w1,b;");
        b.due("clear by their marks, mixed all the same", marked.count(6) * 10 + marked.count(7), 21);
    }

    private static void signNumbers() {
        b.sentence("`int sign(int s, int what)`: Of a SIGN: KIND (what = 0)");
        RebusSigns x = b.laid("p0,a;sa;m0;w0,a;");
        for (int s = 0; s < 3; s++) {
            b.due("sign(" + s + ", 0)", x.sign(s, 0), s);
            for (int what : new int[] {Integer.MIN_VALUE, -1, 5, 6, Integer.MAX_VALUE}) {
                b.due("sign(" + s + ", " + what + ")", x.sign(s, what), BAD);
            }
        }
        for (int s : new int[] {Integer.MIN_VALUE, -1, 3, 11, 12, Integer.MAX_VALUE}) {
            for (int what = -1; what <= 5; what++) {
                b.due("sign(" + s + ", " + what + ")", x.sign(s, what), BAD);
            }
        }
    }

    private static void signAnswers() {
        b.sentence("CLASS (1; NONE: it is a SOUND)");
        RebusSigns x = b.laid("sa;p0,bcdf;p5,b;m0;m5;sabcd;w0,a;");
        int[] classes = {NONE, 0, 5, 0, 5, NONE};
        for (int s = 0; s < classes.length; s++) {
            b.due("sign(" + s + ", 1)", x.sign(s, 1), classes[s]);
        }
        Bounds.tell(x, "p3,a;w0,a;");
        x.lay();
        Bounds.tell(x, "sa;w0,a;");
        x.lay();
        b.due("a sound that comes where a picture was", x.sign(0, 1), NONE);
        b.sentence("LETTERS of its SOUND (2; 0 of a MARK)");
        RebusSigns y = b.laid("sa;p0,bcdf;p5,b;m0;m5;sabcd;w0,a;");
        int[] letters = {1, 4, 1, 0, 0, 4};
        for (int s = 0; s < letters.length; s++) {
            b.due("sign(" + s + ", 2)", y.sign(s, 2), letters[s]);
        }
        Bounds.tell(y, "m0;m0;w0,a;");
        y.lay();
        y.lay();
        b.due("a mark that comes where a sound was", y.sign(0, 2), 0);
        b.due("a mark that comes where a picture was", y.sign(1, 2), 0);
        b.sentence("1 if STRUCK, else 0 (3)");
        RebusSigns z = b.laid("sa;p0,b;m0;w0,a;");
        for (int s = 0; s < 3; s++) {
            b.due("sign(" + s + ", 3)", z.sign(s, 3), 0);
            z.strike(s, 1);
            b.due("sign(" + s + ", 3) struck", z.sign(s, 3), 1);
        }
        z.strike(1, 0);
        b.due("sign(1, 3) no more", z.sign(1, 3), 0);
        b.due("sign(2, 3) as it was", z.sign(2, 3), 1);
    }

    private static void signInLeast() {
        b.sentence("in how many LEAST WRITINGS it is (4). BAD.");
        RebusSigns x = b.laid("sb;m0;sn;sx;w0,b;w1,b;w2,bb;w3,bn;w4,ax;w5,c;w0,nbn;w1,bbbbbbbb;");
        b.due("of six words, once each", x.sign(0, 4), 6);
        b.due("a mark is in none", x.sign(1, 4), 0);
        b.due("in two, in one of them twice", x.sign(2, 4), 2);
        b.due("in none", x.sign(3, 4), 0);
        x.law(1);
        b.due("in one by the loose law", x.sign(3, 4), 1);
        x.strike(0, 1);
        b.due("struck: in none", x.sign(0, 4), 0);
        b.due("the others' writings are gone with it", x.sign(2, 4), 0);
        RebusSigns all = b.laid("sb;w0,b;w1,b;w2,b;w3,b;w4,b;w5,b;w0,ba;w1,ba;k1;");
        b.due("in all eight", all.sign(0, 4), 8);
    }

    private static void wordNumbers() {
        b.sentence("`int word(int w, int what)`: Of a WORD: CLASS (what = 0), LETTERS (1), VOWELS (2)");
        RebusSigns x = b.laid("sa;w0,a;w5,bcdfghjk;w3,aeiou;");
        int[][] due = {{0, 1, 1}, {5, 8, 0}, {3, 5, 5}};
        for (int w = 0; w < due.length; w++) {
            for (int what = 0; what < 3; what++) {
                b.due("word(" + w + ", " + what + ")", x.word(w, what), due[w][what]);
            }
            for (int what : new int[] {Integer.MIN_VALUE, -1, 5, 6, Integer.MAX_VALUE}) {
                b.due("word(" + w + ", " + what + ")", x.word(w, what), BAD);
            }
        }
        for (int w : new int[] {Integer.MIN_VALUE, -1, 3, 7, 8, Integer.MAX_VALUE}) {
            for (int what = -1; what <= 5; what++) {
                b.due("word(" + w + ", " + what + ")", x.word(w, what), BAD);
            }
        }
    }

    private static void wordAnswers() {
        b.sentence("1 if it is CLEAR by its LEAST WRITING, 2 by that with a MARK, else 0 (3), with how many others it is MIXED "
            + "(4). BAD.");
        RebusSigns x = b.laid("sb;sn;m1;w0,b;w1,ba;w2,n;w3,x;k1;");
        int[] clear = {0, 2, 1, 0};
        int[] others = {1, 1, 0, 0};
        for (int w = 0; w < 4; w++) {
            b.due("word(" + w + ", 3)", x.word(w, 3), clear[w]);
            b.due("word(" + w + ", 4)", x.word(w, 4), others[w]);
        }
        RebusSigns eighth = b.laid("sb;m1;w0,c;w1,c;w2,c;w3,c;w4,c;w5,c;w0,b;w1,b;");
        b.due("the eighth word", eighth.word(7, 3), 2);
        b.due("the eighth word", eighth.word(7, 4), 1);
        b.due("the seventh word", eighth.word(6, 3), 0);
        b.due("the ninth word", eighth.word(8, 3), BAD);
    }

    private static void least() {
        b.sentence("LEAST WRITING of a WORD: how many SIGNS (k = -1), LETTERS LEFT OUT (-2), its k-th SIGN (0 the first). BAD "
            + "(k below -2); NONE: it has none, not so many.");
        RebusSigns x = b.laid("sb;sn;w0,bana;w1,x;w2,bbbbbbbb;k1;");
        b.dueLeast(x, 0, 2, 0, 1);
        b.dueNoLeast(x, 1);
        b.dueLeast(x, 2, 0, 0, 0, 0, 0, 0, 0, 0, 0);
        for (int k : new int[] {-3, -4, -100, Integer.MIN_VALUE}) {
            b.due("least(0, " + k + ")", x.least(0, k), BAD);
            b.due("BAD is ahead of NONE: least(1, " + k + ")", x.least(1, k), BAD);
        }
        for (int k : new int[] {2, 3, 8, 9, 16, 100, Integer.MAX_VALUE}) {
            b.due("least(0, " + k + ")", x.least(0, k), NONE);
            b.due("least(1, " + k + ")", x.least(1, k), NONE);
        }
        for (int w : new int[] {Integer.MIN_VALUE, -1, 3, 8, Integer.MAX_VALUE}) {
            for (int k = -3; k <= 1; k++) {
                b.due("least(" + w + ", " + k + ")", x.least(w, k), BAD);
            }
        }
    }

    private static void mark() {
        b.sentence("The MARK that the WRITING has by which a WORD is CLEAR. BAD; NONE: it has none, the WORD is not CLEAR.");
        RebusSigns x = b.laid("m0;sb;sn;m4;w0,b;w1,ba;w2,x;w3,n;w4,c;k1;");
        b.due("mark 0", x.mark(0), 0);
        b.due("it has no mark of its class", x.mark(1), NONE);
        b.due("it has no writing", x.mark(2), NONE);
        b.due("it is clear without", x.mark(3), NONE);
        b.due("a mark of its class, but no writing", x.mark(4), NONE);
        for (int w : new int[] {Integer.MIN_VALUE, -1, 5, 8, Integer.MAX_VALUE}) {
            b.due("mark(" + w + ")", x.mark(w), BAD);
        }
        RebusSigns last = b.laid("sb;sb;sb;sb;sb;sb;sb;sb;sb;sb;sb;m5;w5,b;w0,b;");
        b.due("mark 11", last.mark(0), 11);
    }

    private static void writings() {
        b.sentence("How many WRITINGS a WORD has (unlike ROWS, with a MARK or without). BAD.");
        RebusSigns x = b.laid("sa;sa;m0;m0;m1;w0,a;w1,a;w2,a;w3,b;w0,b;");
        b.due("two sounds; each without or with one of two marks", x.writings(0), 6);
        b.due("with one mark", x.writings(1), 4);
        b.due("no mark", x.writings(2), 2);
        b.due("none", x.writings(3), 0);
        b.due("none, though there is a mark", x.writings(4), 0);
        for (int w : new int[] {Integer.MIN_VALUE, -1, 5, 8, Integer.MAX_VALUE}) {
            b.due("writings(" + w + ")", x.writings(w), BAD);
        }
        RebusSigns ends = b.laid("m0;sa;m0;w0,a;");
        b.due("marks at both ends of the signs", ends.writings(0), 3);
        RebusSigns unlike = b.laid("sa;w0,aaaaaaaa;w1,aea;w2,aab;k1;");
        b.due("a row counts once, in however many ways it lies in the word", unlike.writings(0), 8);
        b.due("a, a a", unlike.writings(1), 2);
        b.due("b is not left out", unlike.writings(2), 0);
        RebusSigns many = b.laid(Bounds.repeat("sa;", 12) + "w0,aaaaaaaa;k1;");
        b.due("12 + 12 * 12 + .. to the 8th", many.writings(0), 469070940L);
        many.law(0);
        b.due("12 to the 8th", many.writings(0), 429981696L);
        RebusSigns marked = b.laid(Bounds.repeat("sa;", 10) + "m0;m0;w0,aaaaaaaa;k1;");
        b.due("111111110, times 3", marked.writings(0), 333333330L);
    }
}
