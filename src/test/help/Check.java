import java.io.IOException;
import java.nio.charset.StandardCharsets;
import java.nio.file.Files;
import java.nio.file.Path;
import java.util.NoSuchElementException;

/**
 * What the tests share: checks, texts for the tape, objects made from texts, and quotes of the document. A test takes
 * a part of the document and says its words one quote behind another, each with checks of its own: a quote that is not
 * there, one without a check, and words that no quote has, are faults.
 */
class Check {
    static final Class<? extends RuntimeException> INDEX = IndexOutOfBoundsException.class;
    static final Class<? extends RuntimeException> ARGUMENT = IllegalArgumentException.class;
    static final Class<? extends RuntimeException> STATE = IllegalStateException.class;
    static final Class<? extends RuntimeException> ELEMENT = NoSuchElementException.class;
    static final Class<? extends RuntimeException> UNSUPPORTED = UnsupportedOperationException.class;
    static final int MIN = Integer.MIN_VALUE;
    static final int MAX = Integer.MAX_VALUE;

    private static final Path DOCUMENT = Path.of("../shared/DOC.md");

    /** The promise under test, where no quote is told. */
    static int promise = 0;

    private static int wrong = 0;
    private static String document = null;
    private static String part = "";
    private static boolean[] said = {};
    private static String quote = "";
    private static int checksOfQuote = 0;

    /** From here on quotes are of the document's words behind one mark and ahead of another. */
    static void part(String behind, String ahead) {
        endPart();
        String all = document();
        if (all.isEmpty()) {
            return;
        }
        int from = all.indexOf(behind);
        int to = from < 0 ? -1 : all.indexOf(ahead, from + behind.length());
        if (to < 0) {
            fault("the document has no part from " + behind + " to " + ahead);
            part = "";
        } else {
            part = all.substring(from + behind.length(), to);
        }
        said = new boolean[part.length()];
    }

    /** The part of one promise, without its head. */
    static void promise(int number) {
        promise = number;
        part("## Promise " + number + ": ", number == 48 ? "## Not promised" : "## Promise " + (number + 1) + ": ");
        int to = part.indexOf("`: ");
        for (int i = 0; i < to; i++) {
            said[i] = true;
        }
    }

    /** The words of the document that the checks up to the next quote are for. */
    static void says(String words) {
        endQuote();
        quote = words;
        if (document().isEmpty()) {
            return;
        }
        int at = part.indexOf(words);
        if (at < 0) {
            fault("these are not the document's words");
            return;
        }
        for (int i = at; i < at + words.length(); i++) {
            said[i] = true;
        }
    }

    private static void endQuote() {
        if (!quote.isEmpty() && checksOfQuote == 0) {
            fault("nothing was checked");
        }
        quote = "";
        checksOfQuote = 0;
    }

    private static void endPart() {
        endQuote();
        int from = -1;
        for (int i = 0; i <= part.length(); i++) {
            boolean left = i < part.length() && !said[i];
            if (left && from < 0) {
                from = i;
            } else if (!left && from >= 0) {
                String words = part.substring(from, i);
                if (words.chars().anyMatch(Character::isLetterOrDigit)) {
                    fault("the document's words without a test: " + words.trim());
                }
                from = -1;
            }
        }
        part = "";
        said = new boolean[0];
    }

    /** The document on one line; empty if it cannot be read: then the checks stand without their quotes. */
    private static String document() {
        if (document == null) {
            try {
                document = Files.readString(DOCUMENT).replace("```text", " ").replace("```", " ").replaceAll("\\s+", " ");
            } catch (IOException e) {
                System.out.println("no quote is looked up, as the document cannot be read: " + e);
                document = "";
            }
        }
        return document;
    }

    private static void fault(String what) {
        wrong++;
        System.out.println((promise == 0 ? "" : "promise " + promise + ": ") + (quote.isEmpty() ? "" : "\"" + quote + "\": ") + what);
    }

    static void is(String what, long got, long want) {
        checksOfQuote++;
        if (got != want) {
            fault(what + " answered " + got + ", due is " + want);
        }
    }

    static void is(String what, boolean got, boolean want) {
        is(what, got ? 1 : 0, want ? 1 : 0);
    }

    static void fails(String what, Class<? extends RuntimeException> want, Runnable call) {
        checksOfQuote++;
        Class<?> got = thrown(call);
        if (got != want) {
            fault(what + (got == null ? " threw nothing" : " threw " + got.getSimpleName()) + ", due is " + want.getSimpleName());
        }
    }

    static Class<?> thrown(Runnable call) {
        try {
            call.run();
            return null;
        } catch (RuntimeException e) {
            return e.getClass();
        }
    }

    /** What a test's main ends with. */
    static void end(String fine) {
        endPart();
        promise = 0;
        System.out.println(wrong == 0 ? fine : wrong + " answers are wrong");
        if (wrong != 0) {
            System.exit(1);
        }
    }

    static void feed(EarCode x, byte[] bytes) {
        for (int from = 0; from < bytes.length; from += 20) {
            int[] five = new int[5];
            for (int i = 0; i < 20; i++) {
                int b = from + i < bytes.length ? bytes[from + i] & 255 : 0;
                five[i / 4] |= b << 24 - 8 * (i % 4);
            }
            x.feed(five[0], five[1], five[2], five[3], five[4]);
        }
        if (!x.end(bytes.length)) {
            throw new Error("the test's tape is too long");
        }
    }

    /** The tape has just this text. */
    static void tape(EarCode x, String text) {
        x.end(0);
        feed(x, text.getBytes(StandardCharsets.ISO_8859_1));
    }

    /** The tape has just these bytes. */
    static void watched(EarCode x, int... rows) {
        byte[] bytes = new byte[rows.length];
        for (int i = 0; i < rows.length; i++) {
            bytes[i] = (byte) rows[i];
        }
        x.end(0);
        feed(x, bytes);
    }

    static int readOf(EarCode x, int what, int... rows) {
        watched(x, rows);
        return x.read(what);
    }

    static int nextOf(EarCode x, int citizen, int... rows) {
        watched(x, rows);
        return x.next(citizen);
    }

    static int republicOf(EarCode x, String text) {
        tape(x, text);
        return x.republic();
    }

    static int codeOf(EarCode x, String text) {
        tape(x, text);
        return x.code();
    }

    /** An object with this code (null: none) and these texts. */
    static EarCode make(String code, String... republic) {
        EarCode x = new EarCode();
        if (code != null) {
            codeOf(x, code);
        }
        for (String text : republic) {
            republicOf(x, text);
        }
        return x;
    }

    static String repeat(String s, int n) {
        return s.repeat(n);
    }

    /** The seed behind a draw, by arithmetic that does not go round by itself. */
    static int drawn(int seed) {
        long next = (1103515245L * seed + 12345L) & 0xffffffffL;
        return (int) next;
    }

    /** What a draw behind this seed is, modulo 100. */
    static int draw(int seed) {
        long next = drawn(seed) & 0xffffffffL;
        return (int) (next / 65536 % 32768 % 100);
    }

    /** The least seed from 0 on whose draw is so much modulo 100. */
    static int seedFor(int draw) {
        int seed = 0;
        while (draw(seed) != draw) {
            seed++;
        }
        return seed;
    }
}
