/** The document's boundary sentences on the text, its faults and what is laid. */
public final class TextBoundsTest {
    private static final int BAD = Bounds.BAD, NO = Bounds.NO, FULL = Bounds.FULL, NONE = Bounds.NONE;
    private static final String EIGHT_WORDS = "w0,a;w1,a;w2,a;w3,a;w4,a;w5,a;w0,b;w1,b;";

    private static final Bounds b = new Bounds();

    public static void main(String[] args) {
        letters();
        signsAtMost();
        soundLength();
        classOfSigns();
        wordsAtMost();
        wordLength();
        classOfWords();
        noTwoAlike();
        textAtMost();
        itemsEnd();
        itemShapes();
        lawNumbers();
        lawCounts();
        firstFault();
        oneTooMany();
        signAndWordAtLeast();
        whatIsLaidAtFirst();
        laidIsFresh();
        textStays();
        aNewObject();
        writeNumbers();
        writeFull();
        wipe();
        faultNone();
        layAnswers();
        b.finish();
    }

    private static void letters() {
        b.sentence("LETTERS are a to z");
        String[] starts = {"p0,", "s", "w0,"};
        for (String start : starts) {
            b.dueFault(start + "a;", NONE);
            b.dueFault(start + "z;", NONE);
            b.dueFault(start + "azaz;", NONE);
            for (char other = 32; other < 127; other++) {
                if (other >= 'a' && other <= 'z' || other == ';') {
                    continue;
                }
                b.dueFault("k0;" + start + other + ";", 3);
                b.dueFault("k0;" + start + "a" + other + ";", 3);
                b.dueFault("k0;" + start + other + "z;", 3);
            }
        }
    }

    private static void signsAtMost() {
        b.sentence("SIGNS 0, 1, .. (12 at most)");
        for (String item : new String[] {"p0,a;", "sa;", "m0;"}) {
            String twelve = Bounds.repeat(item, 12);
            b.dueFault(twelve, NONE);
            RebusSigns x = Bounds.told(twelve + "w0,a;");
            b.due("lay() of 12 signs", x.lay(), 12);
            b.due("count(0)", x.count(0), 12);
            b.due("sign(11, 3)", x.sign(11, 3), 0);
            b.due("sign(12, 3)", x.sign(12, 3), BAD);
            b.dueFault(Bounds.repeat(item, 13), twelve.length());
            b.due("lay() of 13 signs", Bounds.told("w0,a;" + Bounds.repeat(item, 13)).lay(), NO);
        }
        b.dueFault(Bounds.repeat("p0,a;sa;m0;", 4), NONE);
        b.dueFault(Bounds.repeat("p0,a;sa;m0;", 4) + "sa;", 44);
    }

    private static void soundLength() {
        b.sentence("a PICTURE and a SOUND have a SOUND of 1 to 4 LETTERS");
        for (String start : new String[] {"p0,", "s"}) {
            String sound = "bcdf";
            b.dueFault(start + ";", 0);
            for (int n = 1; n <= 4; n++) {
                RebusSigns x = Bounds.told(start + sound.substring(0, n) + ";w0,a;");
                b.due("lay() with a sound of " + n, x.lay(), 1);
                b.due("sign(0, 2)", x.sign(0, 2), n);
            }
            b.dueFault(start + "bcdfg;", 0);
            b.dueFault(start + "bcdfghjk;", 0);
        }
    }

    private static void classOfSigns() {
        b.sentence("a PICTURE and a MARK a CLASS (0 to 5)");
        for (int c = 0; c <= 5; c++) {
            RebusSigns x = Bounds.told("p" + c + ",a;m" + c + ";w0,a;");
            b.due("lay() with class " + c, x.lay(), 2);
            b.due("sign(0, 1)", x.sign(0, 1), c);
            b.due("sign(1, 1)", x.sign(1, 1), c);
        }
        for (String none : new String[] {"", "6", "9", "/", ":", "-", "a", " ", "00", "05", "10", "-1", "5 ", "\u007e"}) {
            b.dueFault("p" + none + ",a;", 0);
            b.dueFault("m" + none + ";", 0);
        }
        b.dueFault("s0;", 0);
        b.dueFault("s0,a;", 0);
    }

    private static void wordsAtMost() {
        b.sentence("WORDS 0, 1, .. (8 at most)");
        b.dueFault(EIGHT_WORDS, NONE);
        RebusSigns x = Bounds.told(EIGHT_WORDS + "sa;");
        b.due("lay() with 8 words", x.lay(), 1);
        b.due("count(1)", x.count(1), 8);
        b.due("word(7, 0)", x.word(7, 0), 1);
        b.due("word(8, 0)", x.word(8, 0), BAD);
        b.dueFault(EIGHT_WORDS + "w2,b;", EIGHT_WORDS.length());
        b.dueFault(EIGHT_WORDS + "sa;k0;w2,b;", EIGHT_WORDS.length() + 6);
        b.due("lay() with 9 words", Bounds.told(EIGHT_WORDS + "sa;w2,b;").lay(), NO);
    }

    private static void wordLength() {
        b.sentence("are 1 to 8 LETTERS");
        String letters = "abcdefgh";
        b.dueFault("w0,;", 0);
        for (int n = 1; n <= 8; n++) {
            RebusSigns x = Bounds.told("sa;w0," + letters.substring(0, n) + ";");
            b.due("lay() with a word of " + n, x.lay(), 1);
            b.due("word(0, 1)", x.word(0, 1), n);
        }
        b.dueFault("w0,abcdefghi;", 0);
        b.dueFault("w0,aaaaaaaaaaaaaaaa;", 0);
    }

    private static void classOfWords() {
        b.sentence("of a CLASS (0 to 5) each");
        for (int c = 0; c <= 5; c++) {
            RebusSigns x = Bounds.told("sa;w" + c + ",a;");
            b.due("lay() with class " + c, x.lay(), 1);
            b.due("word(0, 0)", x.word(0, 0), c);
        }
        for (String none : new String[] {"", "6", "9", "/", ":", "a", " ", "00", "05", "-1"}) {
            b.dueFault("w" + none + ",a;", 0);
        }
    }

    private static void noTwoAlike() {
        b.sentence("no two are alike in both");
        b.dueFault("w0,ab;w0,ab;", 6);
        b.dueFault("w0,ab;w5,ab;", NONE);
        b.dueFault("w0,ab;w0,ac;", NONE);
        b.dueFault("w0,ab;w0,a;", NONE);
        b.dueFault("w0,a;w0,ab;", NONE);
        b.dueFault("w0,ab;w0,ba;", NONE);
        b.dueFault("w0,a;w1,a;w0,b;w1,b;w1,a;", 20);
        b.dueFault("w0,abcdefgh;w0,abcdefgx;w0,abcdefgx;", 24);
        b.dueFault("sa;sa;m0;m0;p0,a;p0,a;", NONE);
        b.due("lay() with two alike", Bounds.told("sa;w0,ab;w0,ab;").lay(), NO);
        RebusSigns x = Bounds.told("sa;w0,a;");
        b.due("lay()", x.lay(), 1);
        b.due("lay() of the same text: no word is left from before", x.lay(), 1);
    }

    private static void textAtMost() {
        b.sentence("THE TEXT is letters (200 at most)");
        RebusSigns x = new RebusSigns();
        for (int i = 1; i <= 200; i++) {
            b.due("write " + i, x.write('~'), i);
        }
        b.due("write 201", x.write('~'), FULL);
        b.due("write 202", x.write(' '), FULL);
        b.due("count(9)", x.count(9), 200);
        String whole = Bounds.repeat("k0;", 62) + "sab;w0,abcdef;";
        b.due("letters of a whole text", whole.length(), 200);
        RebusSigns y = Bounds.told(whole);
        b.due("fault() of 200 letters", y.fault(), NONE);
        b.due("lay() of 200 letters", y.lay(), 1);
        b.due("the last letter counts", y.word(0, 1), 6);
        RebusSigns z = Bounds.told("k0" + whole);
        b.due("what is behind 200 is not in the text", z.count(9), 200);
        b.due("its last item has no ;", z.lay(), NO);
    }

    private static void itemsEnd() {
        b.sentence("A TEXT is ITEMS one behind the other, a ; behind each");
        for (String item : new String[] {"p0,a", "sa", "m0", "w0,a", "k0"}) {
            b.dueFault(item, 0);
            b.dueFault(item + ";", NONE);
            b.dueFault(item + ";sb;", NONE);
            b.dueFault("sb;" + item, 3);
            b.dueFault(item + ";;", item.length() + 1);
            b.dueFault(";" + item + ";", 0);
            b.dueFault(item + " ;", 0);
            b.dueFault(item + ":", 0);
            b.dueFault(item + "; sb;", item.length() + 1);
            b.due("lay() without the last ;", Bounds.told("sb;w1,b;" + item).lay(), NO);
        }
        b.dueFault(";", 0);
    }

    private static void itemShapes() {
        b.sentence("pC,LETTERS the next SIGN: a PICTURE of CLASS C with that SOUND");
        for (char first = 32; first < 127; first++) {
            boolean is = first == 'p' || first == 'w';
            b.dueFault(first + "0,ab;", is ? NONE : 0);
        }
        for (String item : new String[] {"p", "p0", "p0,", "p,", "pa", "p0a", "p0.a", "p0,,a", "p0,a,", "p0 a", "p0,a,b"}) {
            b.dueFault("m0;" + item + ";", 3);
        }
        b.sentence("sLETTERS the next SIGN: a SOUND");
        for (String item : new String[] {"s", "s,", "s,a", "sa,", "sa,b", "s a"}) {
            b.dueFault("m0;" + item + ";", 3);
        }
        b.sentence("mC the next SIGN: a MARK of CLASS C");
        for (String item : new String[] {"m", "m0,", "m0,a", "m0a", "m00", "m,0", "m 0"}) {
            b.dueFault("m0;" + item + ";", 3);
        }
        b.sentence("wC,LETTERS the next WORD, of CLASS C");
        for (String item : new String[] {"w", "w0", "w0,", "w,", "wa", "w0a", "w0.a", "w0,,a", "w0,a,", "w0,a,b"}) {
            b.dueFault("m0;" + item + ";", 3);
        }
        RebusSigns x = Bounds.told("w3,eye;p4,bee;m5;w2,y;sn;");
        b.due("lay()", x.lay(), 3);
        b.due("the kinds, by their order in the text", x.sign(0, 0) * 100 + x.sign(1, 0) * 10 + x.sign(2, 0), 21);
        b.due("the words, by their order in the text", x.word(0, 0) * 10 + x.word(1, 0), 32);
    }

    private static void lawNumbers() {
        b.sentence("LAW: L 0 STRICT, 1 LOOSE");
        b.due("k0", Bounds.told("k0;").fault(), NONE);
        b.due("k1", Bounds.told("k1;").fault(), NONE);
        for (String item : new String[] {"k", "k2", "k/", "k9", "k00", "k01", "k11", "k1,", "k,1", "ka", "k 1", "k-1"}) {
            b.dueFault("k0;" + item + ";", 3);
        }
        RebusSigns strict = b.laid("sb;w0,ba;k0;");
        b.due("count(2)", strict.count(2), 0);
        b.due("strict: ba is not b", strict.writings(0), 0);
        RebusSigns loose = b.laid("sb;w0,ba;k1;");
        b.due("count(2)", loose.count(2), 1);
        b.due("loose: ba is b", loose.writings(0), 1);
    }

    private static void lawCounts() {
        b.sentence("(0 without; of several the last one counts)");
        b.due("without, after 1 at first", b.laid("sb;w0,ba;").count(2), 0);
        b.due("k1", b.laid("k1;sb;w0,ba;").count(2), 1);
        b.due("k1 k0", b.laid("k1;sb;k0;w0,ba;").count(2), 0);
        b.due("k0 k1", b.laid("k0;sb;w0,ba;k1;").count(2), 1);
        b.due("k0 k0 k1 k1", b.laid("k0;k0;k1;sb;w0,ba;k1;").count(2), 1);
        b.due("k1 k1 k0", b.laid("sb;w0,ba;k1;k1;k0;").count(2), 0);
        RebusSigns x = b.laid("sb;w0,ba;k1;");
        Bounds.tell(x, "sb;w0,ba;");
        b.due("lay() without a law", x.lay(), 1);
        b.due("the law of the text before does not stay", x.count(2), 0);
    }

    private static void firstFault() {
        b.sentence("the place (from 0 on) of the first letter of the first ITEM that is not so");
        b.dueFault("x;", 0);
        b.dueFault("sa;x;", 3);
        b.dueFault("sa;x;y;", 3);
        b.dueFault("sa;w0,abc!;sabcde;x", 3);
        b.dueFault("sa;m0;p0,abcde;x;", 6);
        b.dueFault("k0;k0;k0;k2", 9);
        b.dueFault(Bounds.repeat("k0;", 66) + "k0", 198);
        b.dueFault(Bounds.repeat("k0;", 65) + "k0,a;", 195);
        RebusSigns x = Bounds.told(Bounds.repeat("k0;", 66) + "k;");
        b.due("letters", x.count(9), 200);
        b.due("fault()", x.fault(), 198);
        RebusSigns last = Bounds.told(Bounds.repeat("k0;", 65) + "sab; ");
        b.due("the last letter of 200", last.fault(), 199);
    }

    private static void oneTooMany() {
        b.sentence("(or is one too many)");
        String twelve = Bounds.repeat("m0;", 12);
        b.dueFault(twelve + "k0;", NONE);
        b.dueFault(twelve + "k0;m0;", 39);
        b.dueFault(twelve + "m0;x;", 36);
        b.dueFault(twelve + "x;m0;", 36);
        b.dueFault("x;" + twelve + "m0;", 0);
        b.dueFault(twelve + "sa;", 36);
        b.dueFault(twelve + "p0,a;", 36);
        b.dueFault(twelve + EIGHT_WORDS, NONE);
        b.dueFault(twelve + EIGHT_WORDS + "w5,b;m0;", 36 + EIGHT_WORDS.length());
        b.dueFault(twelve + EIGHT_WORDS + "m0;w5,b;", 36 + EIGHT_WORDS.length());
        b.dueFault(EIGHT_WORDS + "w5,b;" + twelve + "m0;", EIGHT_WORDS.length());
        b.dueFault(EIGHT_WORDS + "w0,a;", EIGHT_WORDS.length());
    }

    private static void signAndWordAtLeast() {
        b.sentence("LAID is a TEXT without FAULT with a SIGN and a WORD at least (NO else;");
        for (String none : new String[] {"", "k0;", "k1;", "sa;", "m0;", "p0,a;", "w0,a;", "sa;k1;m0;", "w0,a;w1,a;k0;",
            "sa;w0,a", "sa;w0,a;x", "sa;w0,a;;", "sa;w0,a;w0,a;", "x;sa;w0,a;"}) {
            RebusSigns x = Bounds.told(none);
            b.due("lay() of " + none, x.lay(), NO);
            b.due("what was laid stays: " + none, x.count(0) * 10 + x.count(1), 107);
        }
        for (String sign : new String[] {"sa;", "m0;", "p0,a;"}) {
            b.due("lay() of one sign and one word", Bounds.told(sign + "w0,a;").lay(), 1);
            b.due("lay() of one word and one sign", Bounds.told("w0,a;" + sign).lay(), 1);
        }
    }

    private static void whatIsLaidAtFirst() {
        b.sentence("at first p0,bee;p1,leaf;p2,eye;p3,can;sn;st;sb;sl;m4;m1;w4,beleaf;w1,leaf;w4,canoe;w3,can;w5,cant;"
            + "w2,bee;w0,bee;k1;");
        RebusSigns first = new RebusSigns();
        RebusSigns same = b.laid("p0,bee;p1,leaf;p2,eye;p3,can;sn;st;sb;sl;m4;m1;w4,beleaf;w1,leaf;w4,canoe;w3,can;"
            + "w5,cant;w2,bee;w0,bee;k1;");
        for (int what = 0; what <= 8; what++) {
            b.due("count(" + what + ")", first.count(what), same.count(what));
        }
        for (int s = 0; s < 10; s++) {
            for (int what = 0; what <= 4; what++) {
                b.due("sign(" + s + ", " + what + ")", first.sign(s, what), same.sign(s, what));
            }
        }
        for (int w = 0; w < 7; w++) {
            for (int what = 0; what <= 4; what++) {
                b.due("word(" + w + ", " + what + ")", first.word(w, what), same.word(w, what));
            }
            b.due("writings(" + w + ")", first.writings(w), same.writings(w));
        }
        b.due("sign(10, 0)", first.sign(10, 0), BAD);
        b.due("word(7, 0)", first.word(7, 0), BAD);
    }

    private static void laidIsFresh() {
        b.sentence("no SIGN is STRUCK, THE INSCRIPTION is empty");
        RebusSigns x = b.laid("sa;sb;w0,ab;", 0, 1);
        b.due("strike(0, 1)", x.strike(0, 1), 1);
        b.due("strike(1, 1)", x.strike(1, 1), 2);
        b.due("lay() again", x.lay(), 2);
        b.due("count(3)", x.count(3), 0);
        b.due("sign(0, 3)", x.sign(0, 3), 0);
        b.due("sign(1, 3)", x.sign(1, 3), 0);
        b.due("count(4)", x.count(4), 0);
        b.due("carved(0)", x.carved(0), NONE);
        b.due("readings()", x.readings(), 1);
        b.due("writings(0)", x.writings(0), 1);
        b.due("lay() once more", x.lay(), 2);
        b.due("a sign struck two texts ago is not struck either", x.count(3), 0);
    }

    private static void textStays() {
        b.sentence("LAID, THE TEXT stays.");
        RebusSigns x = b.laid("sa;w0,ab;");
        b.due("count(9)", x.count(9), 9);
        b.due("write goes on behind it", x.write('s'), 10);
        b.due("fault()", x.fault(), 9);
        b.due("write", x.write('b'), 11);
        b.due("write", x.write(';'), 12);
        b.due("lay()", x.lay(), 2);
        b.due("wipe()", x.wipe(), 12);
        b.due("what is laid stays without the text", x.count(0), 2);
        b.due("its word too", x.writings(0), 1);
        b.due("lay() of the empty text", x.lay(), NO);
    }

    private static void aNewObject() {
        b.sentence("As told; THE TEXT is empty.");
        RebusSigns x = new RebusSigns();
        b.due("count(9)", x.count(9), 0);
        b.due("wipe()", x.wipe(), 0);
        b.due("fault()", x.fault(), NONE);
        b.due("lay()", x.lay(), NO);
        b.due("write()", x.write('a'), 1);
        RebusSigns y = new RebusSigns();
        b.due("none is struck", y.count(3), 0);
        b.due("the inscription is empty", y.count(4), 0);
        b.due("chip()", y.chip(), NO);
        b.due("undo()", y.undo(), NO);
        b.due("count(8)", y.count(8), 0);
        b.due("the law is loose", y.law(0), 1);
    }

    private static void writeNumbers() {
        b.sentence("A letter (32 to 126, as in ASCII) comes behind THE TEXT: how long it is.");
        for (int none : new int[] {Integer.MIN_VALUE, -97, -1, 0, 9, 10, 13, 31, 127, 128, 255, 256 + 97, 65536 + 97,
            Integer.MAX_VALUE}) {
            RebusSigns x = Bounds.told("s");
            b.due("write(" + none + ")", x.write(none), BAD);
            b.due("count(9) is as it was", x.count(9), 1);
        }
        RebusSigns all = new RebusSigns();
        for (int letter = 32; letter <= 126; letter++) {
            b.due("write(" + letter + ")", all.write(letter), letter - 31);
        }
    }

    private static void writeFull() {
        b.sentence("BAD; FULL: it has 200.");
        RebusSigns x = Bounds.told(Bounds.repeat("k1;", 65) + "k0;k");
        b.due("letters", x.count(9), 199);
        b.due("the 200th", x.write('x'), 200);
        b.due("the 201st", x.write('x'), FULL);
        b.due("BAD is ahead of FULL", x.write(31), BAD);
        b.due("BAD is ahead of FULL", x.write(127), BAD);
        b.due("nothing changed", x.fault(), 198);
        b.due("wipe()", x.wipe(), 200);
        b.due("there is room again", x.write('x'), 1);
    }

    private static void wipe() {
        b.sentence("THE TEXT is empty: how long it was.");
        RebusSigns x = new RebusSigns();
        b.due("wipe() of none", x.wipe(), 0);
        x.write('?');
        b.due("wipe() of one", x.wipe(), 1);
        b.due("wipe() again", x.wipe(), 0);
        b.due("count(9)", x.count(9), 0);
        b.due("fault() is gone with the text", x.fault(), NONE);
        b.due("what is laid stays", x.count(0), 10);
    }

    private static void faultNone() {
        b.sentence("`int fault()`: FAULT. NONE.");
        b.due("of an empty text", new RebusSigns().fault(), NONE);
        b.dueFault("k0;", NONE);
        b.dueFault("sa;", NONE);
        b.dueFault("w0,a;", NONE);
        b.dueFault("x", 0);
        RebusSigns x = Bounds.told("k0;x");
        b.due("fault()", x.fault(), 3);
        b.due("fault() asked again", x.fault(), 3);
        b.due("fault() changes nothing", x.count(9) * 100 + x.count(0), 410);
        RebusSigns y = b.laid("sa;w0,a;");
        Bounds.tell(y, "m0;m1;m2;w3,abc;w4,abc;");
        b.due("fault() of a text that is not laid", y.fault(), NONE);
        b.due("it lays nothing: signs", y.count(0), 1);
        b.due("it lays nothing: words", y.word(0, 1), 1);
        b.due("it lays nothing: kind", y.sign(0, 0), 1);
    }

    private static void layAnswers() {
        b.sentence("LAID: how many SIGNS. NO.");
        for (int n = 1; n <= 12; n++) {
            b.due("lay() of " + n, Bounds.told("w0,a;w1,a;" + Bounds.repeat("sa;", n)).lay(), n);
        }
        RebusSigns x = b.laid("sa;w0,a;", 0);
        x.strike(0, 1);
        Bounds.tell(x, "sa;sb;w0,a;w0,a;");
        b.due("lay() of a faulty text", x.lay(), NO);
        b.due("nothing changed: signs", x.count(0), 1);
        b.due("nothing changed: struck", x.count(3), 1);
        b.due("nothing changed: inscription", x.count(4), 1);
        b.due("nothing changed: changes", x.count(8), 2);
        b.due("nothing changed: the text", x.count(9), 16);
    }
}
