import java.util.ArrayList;
import java.util.Collections;
import java.util.List;
import java.util.Random;

/** Runs of calls, the same every time, on the class and on the model: each answer has to be alike. */
public final class ModelTest {
    private static final int RUNS = 400;
    private static final int MOST_CALLS = 512;
    private static final int[] ODD_NUMBERS = {
        -1, -2, -3, -4, 12, 13, 16, 17, 200, Integer.MIN_VALUE, Integer.MAX_VALUE, Integer.MAX_VALUE - 8};
    private static final String[] ALPHABETS = {"a", "ae", "ab", "aeb", "aebn", "bn", "aeioutn"};

    private static final Check check = new Check();

    private final Random random;
    private final RebusSigns real = new RebusSigns();
    private final Model model = new Model();
    private final StringBuilder told = new StringBuilder();
    private final String alphabet;
    private int calls = 0;

    private ModelTest(int seed) {
        random = new Random(seed);
        alphabet = ALPHABETS[random.nextInt(ALPHABETS.length)];
    }

    public static void main(String[] args) {
        for (int seed = 0; seed < RUNS && check.isClean(); seed++) {
            ModelTest run = new ModelTest(seed);
            run.play();
            if (!check.isClean()) {
                System.out.println("run " + seed + ": " + run.told);
            }
        }
        check.finish();
    }

    private void play() {
        while (calls < MOST_CALLS && check.isClean()) {
            if (random.nextInt(60) == 0) {
                layText();
            } else if (random.nextInt(3) == 0) {
                change();
            } else {
                ask();
            }
            if (model.isTooLarge()) {
                return;
            }
        }
    }

    private void due(String call, long got, long want) {
        calls++;
        told.append(call).append(' ');
        check.due(call, got, want);
    }

    private void layText() {
        String text = random.nextInt(5) == 0 ? spoiled(text()) : text();
        if (random.nextInt(8) != 0) {
            due("wipe()", real.wipe(), model.wipe());
        }
        for (char c : text.toCharArray()) {
            due("write(" + (int) c + ")", real.write(c), model.write(c));
        }
        due("fault()", real.fault(), model.fault());
        due("lay()", real.lay(), model.lay());
    }

    private String letters(int most) {
        StringBuilder s = new StringBuilder();
        int n = 1 + random.nextInt(most);
        for (int i = 0; i < n; i++) {
            s.append(alphabet.charAt(random.nextInt(alphabet.length())));
        }
        return s.toString();
    }

    private String text() {
        List<String> items = new ArrayList<>();
        int classes = 1 + random.nextInt(6);
        int signs = random.nextInt(8) == 0 ? 11 + random.nextInt(3) : random.nextInt(8);
        int words = random.nextInt(8) == 0 ? 7 + random.nextInt(3) : random.nextInt(7);
        for (int i = 0; i < signs; i++) {
            switch (random.nextInt(3)) {
                case 0 -> items.add("p" + random.nextInt(classes) + "," + letters(4));
                case 1 -> items.add("s" + letters(random.nextBoolean() ? 4 : 2));
                default -> items.add("m" + random.nextInt(classes));
            }
        }
        for (int i = 0; i < words; i++) {
            items.add("w" + random.nextInt(classes) + "," + letters(random.nextBoolean() ? 8 : 4));
        }
        for (int i = random.nextInt(3); i > 0; i--) {
            items.add("k" + random.nextInt(2));
        }
        Collections.shuffle(items, random);
        return items.isEmpty() ? "" : String.join(";", items) + ";";
    }

    private String spoiled(String text) {
        StringBuilder s = new StringBuilder(text);
        for (int i = random.nextInt(3); i >= 0 && s.length() > 0; i--) {
            int at = random.nextInt(s.length());
            switch (random.nextInt(4)) {
                case 0 -> s.deleteCharAt(at);
                case 1 -> s.insert(at, "abzpsmwk,;0123456 A".charAt(random.nextInt(19)));
                case 2 -> s.setCharAt(at, "abzpsmwk,;0123456 A".charAt(random.nextInt(19)));
                default -> s.setLength(at);
            }
        }
        return s.toString();
    }

    private int number(int below) {
        return random.nextInt(25) == 0 ? ODD_NUMBERS[random.nextInt(ODD_NUMBERS.length)] : random.nextInt(below);
    }

    private int signNumber() {
        return number(Math.max(1, model.count(0)));
    }

    private int wordNumber() {
        return number(Math.max(1, model.count(1)));
    }

    private void change() {
        int s = signNumber();
        switch (random.nextInt(12)) {
            case 0, 1 -> {
                int is = number(2);
                due("strike(" + s + ", " + is + ")", real.strike(s, is), model.strike(s, is));
            }
            case 2 -> {
                int l = number(2);
                due("law(" + l + ")", real.law(l), model.law(l));
            }
            case 3 -> due("chip()", real.chip(), model.chip());
            case 4, 5 -> due("undo()", real.undo(), model.undo());
            case 6 -> {
                int letter = random.nextInt(8) == 0 ? random.nextInt(300) - 50 : 31 + random.nextInt(97);
                due("write(" + letter + ")", real.write(letter), model.write(letter));
            }
            case 7 -> due("fault()", real.fault(), model.fault());
            default -> due("carve(" + s + ")", real.carve(s), model.carve(s));
        }
    }

    private void ask() {
        int s = signNumber();
        int w = wordNumber();
        int k = number(20) - 3;
        int what = number(11);
        switch (random.nextInt(13)) {
            case 0 -> due("sign(" + s + ", " + what + ")", real.sign(s, what), model.sign(s, what));
            case 1, 2 -> {
                int of = number(6);
                due("word(" + w + ", " + of + ")", real.word(w, of), model.word(w, of));
            }
            case 3, 4 -> {
                int of = number(8) - 3;
                due("least(" + w + ", " + of + ")", real.least(w, of), model.least(w, of));
            }
            case 5 -> due("mark(" + w + ")", real.mark(w), model.mark(w));
            case 6 -> due("writings(" + w + ")", real.writings(w), model.writings(w));
            case 7 -> due("carved(" + k + ")", real.carved(k), model.carved(k));
            case 8 -> {
                int i = number(17) - (random.nextInt(20) == 0 ? 1 : 0);
                int n = number(11);
                due("read(" + i + ", " + n + ")", real.read(i, n), model.read(i, n));
            }
            case 9 -> due("readings()", real.readings(), model.readings());
            case 10 -> due("reading(" + k + ")", real.reading(k), model.reading(k));
            case 11 -> due("cut(" + k + ")", real.cut(k), model.cut(k));
            default -> due("count(" + what + ")", real.count(what), model.count(what));
        }
    }
}
