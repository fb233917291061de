import java.io.IOException;
import java.io.UncheckedIOException;
import java.nio.file.Files;
import java.nio.file.Path;
import java.util.Random;

/** What the tests share: a tally of answers, and ways to fill an object. */
final class Checks {
    static final long BAD_LONG = Long.MIN_VALUE + 2;
    private static String document = null;
    private int asked = 0;
    private int wrong = 0;
    private int sentences = 0;
    private String sentence = "";

    /** Answers from here on are asked for by this sentence, which must stand in the document as it is quoted. */
    void sentence(String quote) {
        sentence = "";
        holds("the document does not say: " + quote, documentText().contains(inOneLine(quote)));
        sentence = quote;
        sentences++;
    }

    void due(String call, long got, long want) {
        asked++;
        if (got != want) {
            wrong++;
            if (wrong <= 50) {
                String by = sentence.isEmpty() ? "" : " (by '" + sentence + "')";
                System.out.println(call + " answered " + got + ", due is " + want + by);
            }
        }
    }

    void holds(String what, boolean is) {
        due(what, is ? 1 : 0, 1);
    }

    void end() {
        String by = sentences == 0 ? "" : ", by " + sentences + " sentences";
        System.out.println(asked + " answers asked" + by + ", " + wrong + " not as due");
        if (wrong != 0 || asked == 0) {
            System.exit(1);
        }
    }

    private static String documentText() {
        if (document == null) {
            try {
                document = inOneLine(Files.readString(Path.of("../shared/DOC.md")));
            } catch (IOException e) {
                throw new UncheckedIOException(e);
            }
        }
        return document;
    }

    private static String inOneLine(String text) {
        return text.replaceAll("\\s+", " ");
    }

    static void type(TurnThird x, int text, String bytes) {
        for (int i = 0; i < bytes.length(); i++) {
            x.type(text, bytes.charAt(i));
        }
    }

    static void retype(TurnThird x, int text, String bytes) {
        x.wipe(text);
        type(x, text, bytes);
    }

    static TurnThird inCave(String cave, int... burns) {
        TurnThird x = new TurnThird();
        type(x, 0, cave);
        for (int i = 0; i < burns.length; i++) {
            x.lamp(i, burns[i]);
        }
        return x;
    }

    /** {IN, OUT, SHARED, rope} of so many PARTS. */
    static int[][] randomParts(Random random, int n) {
        int[][] parts = new int[n][];
        for (int i = 0; i < n; i++) {
            int out = 1 + random.nextInt(9);
            parts[i] = new int[] {1 + random.nextInt(9), out, out + random.nextInt(10 - out), random.nextInt(2)};
        }
        return parts;
    }

    static String caveText(int[][] parts) {
        StringBuilder text = new StringBuilder();
        for (int[] part : parts) {
            text.append(text.length() == 0 ? "" : ";").append(part[0]).append(part[1]).append(part[2]);
            text.append(part[3] == 1 ? 'r' : '.');
        }
        return text.toString();
    }

    static String randomPlan(Random random, int limit) {
        StringBuilder text = new StringBuilder();
        int depthGuess = 0;
        int n = random.nextInt(limit);
        while (text.length() < n) {
            int kind = random.nextInt(10);
            if (kind == 0 && text.length() + 2 <= n) {
                text.append('x').append(random.nextInt(4));
            } else if (kind <= 2) {
                text.append('u');
            } else if (kind <= 6 || depthGuess == 0) {
                text.append('+');
                depthGuess++;
            } else {
                text.append('-');
                depthGuess--;
            }
        }
        return text.toString();
    }
}
