import java.io.IOException;
import java.nio.charset.StandardCharsets;
import java.nio.file.Files;
import java.nio.file.Path;
import java.util.LinkedHashMap;
import java.util.Map;

/**
 * What the tests of edges share: how a text or an image comes into an object, and a count of wrong answers. Each test
 * first quotes the sentence of the document that it tests, so that a sentence without a test can be told.
 */
final class Sheet {
    static final int NONE = -1;
    static final int[] WILD = {Integer.MIN_VALUE, Integer.MIN_VALUE + 1, -1000, -2, 1000, 65536, Integer.MAX_VALUE - 1, Integer.MAX_VALUE};
    private static final Path DOC = Path.of("../shared/DOC.md");
    private static final int PROMISES = 36;

    private final Map<String, String> sections = new LinkedHashMap<>();
    private final Map<String, boolean[]> told = new LinkedHashMap<>();
    private String section = "";
    private String words = "";
    private int sentences = 0;
    private int wrong = 0;

    Sheet() throws IOException {
        if (Files.exists(DOC)) {
            readDocument();
        } else {
            System.out.println("without " + DOC + " the answers are tested, but not what is quoted");
        }
    }

    private void readDocument() throws IOException {
        String doc = Files.readString(DOC, StandardCharsets.UTF_8).replaceAll("```[a-z]*", " ").replaceAll("\\s+", " ");
        keep("I", between(doc, " I. ", " II. "));
        keep("II", between(doc, " II. ", " III. "));
        keep("III", between(doc, " III. ", " The constants:"));
        for (int k = 1; k <= PROMISES; k++) {
            String promise = between(doc, " ## Promise " + k + ": ", " ## ");
            keep("Promise " + k, promise.substring(promise.indexOf("`: ") + 3));
        }
    }

    private static String between(String text, String head, String tail) {
        int start = text.indexOf(head) + head.length();
        return text.substring(start, text.indexOf(tail, start));
    }

    private void keep(String name, String text) {
        sections.put(name, text);
        told.put(name, new boolean[text.length()]);
    }

    /** The tests that follow are of this part of the document. */
    void section(String name) {
        section = name;
    }

    void promise(int k) {
        section("Promise " + k);
    }

    /** The tests that follow would fail if these words of the document were broken. */
    void says(String sentence) {
        words = sentence;
        sentences++;
        String text = sections.getOrDefault(section, "");
        int at = text.indexOf(sentence);
        if (at < 0 && !sections.isEmpty()) {
            say("the document does not say this");
        }
        while (at >= 0) {
            java.util.Arrays.fill(told.get(section), at, at + sentence.length(), true);
            at = text.indexOf(sentence, at + 1);
        }
    }

    void say(String what) {
        wrong++;
        System.out.println(section + ", \"" + words + "\": " + what);
    }

    void due(String what, int got, int want) {
        if (got != want) {
            say(what + " is " + got + ", due is " + want);
        }
    }

    void due(String what, boolean got, boolean want) {
        due(what, got ? 1 : 0, want ? 1 : 0);
    }

    void due(String what, String got, String want) {
        if (!got.equals(want)) {
            say(what + " is " + got + ", due is " + want);
        }
    }

    /** Parts 0, 1, .. of what is asked, with NONE ahead of them and behind them, and far off. */
    void parts(String what, Asked asked, int... want) {
        for (int k = 0; k < want.length; k++) {
            due(what + " " + k, asked.answer(k), want[k]);
        }
        due(what + " -1", asked.answer(-1), NONE);
        due(what + " " + want.length, asked.answer(want.length), NONE);
        for (int wild : WILD) {
            due(what + " " + wild, asked.answer(wild), NONE);
        }
    }

    interface Asked {
        int answer(int k);
    }

    /** The sentences without a test count as wrong, too. */
    void end() {
        for (String name : sections.keySet()) {
            String text = sections.get(name);
            StringBuilder untold = new StringBuilder();
            for (int k = 0; k < text.length(); k++) {
                untold.append(told.get(name)[k] ? '|' : text.charAt(k));
            }
            for (String part : untold.toString().split("\\|+")) {
                if (part.matches(".*[A-Za-z0-9].*")) {
                    wrong++;
                    System.out.println(name + ": no test of \"" + part + "\"");
                }
            }
        }
        System.out.println(wrong == 0 ? "all edges of " + sentences + " sentences are as due" : wrong + " answers are not as due");
        if (wrong != 0) {
            System.exit(1);
        }
    }

    static void tape(SoapDeeds x, int... bytes) {
        for (int at = 0; at < bytes.length; at += 20) {
            int[] v = new int[5];
            for (int k = 0; k < 20; k++) {
                v[k / 4] = v[k / 4] << 8 | (at + k < bytes.length ? bytes[at + k] & 255 : 0);
            }
            x.feed(v[0], v[1], v[2], v[3], v[4]);
        }
        x.end(bytes.length);
    }

    static int room(SoapDeeds x, String text) {
        int[] bytes = new int[text.length()];
        for (int k = 0; k < bytes.length; k++) {
            bytes[k] = text.charAt(k);
        }
        tape(x, bytes);
        return x.room();
    }

    /** A new object with this room. */
    SoapDeeds in(String text) {
        SoapDeeds x = new SoapDeeds();
        if (room(x, text) == NONE) {
            say("FAULT " + x.fault(0) + " at " + x.fault(1) + ": " + text);
        }
        return x;
    }

    /** The same in a told SECOND. */
    SoapDeeds inAt(int second, String text) {
        SoapDeeds x = in(text);
        int[] image = image(x);
        image[0] = second / 256;
        image[1] = second % 256;
        due("on() in SECOND " + second, on(x, image), true);
        return x;
    }

    static int felt(SoapDeeds x, int... rows) {
        tape(x, rows);
        return x.feel();
    }

    static int[] image(SoapDeeds x) {
        int[] bytes = new int[x.image()];
        for (int k = 0; k < bytes.length; k++) {
            bytes[k] = x.octet(k);
        }
        return bytes;
    }

    /** The image with a last byte that fits. */
    static int[] checked(int... bytes) {
        int c = 197;
        for (int k = 0; k < bytes.length - 1; k++) {
            c = (5 * c + bytes[k]) % 251;
        }
        bytes[bytes.length - 1] = c;
        return bytes;
    }

    static boolean on(SoapDeeds x, int... image) {
        tape(x, checked(image));
        return x.on();
    }

    /** All that an ACT, a refused call or an image may change, but for the tape, FELT and the latest image. */
    static String state(SoapDeeds x) {
        StringBuilder all = new StringBuilder();
        for (int octet : image(x)) {
            all.append(octet).append(' ');
        }
        all.append("seed ").append(x.has(12)).append(" acts ").append(x.has(11)).append(" kept");
        for (int k = 0; k < x.has(9); k++) {
            for (int what = 0; what < 4; what++) {
                all.append(' ').append(x.kept(k, what));
            }
        }
        return all.toString();
    }

    static String refusals(SoapDeeds x) {
        StringBuilder all = new StringBuilder();
        for (int k = 0; k < 6; k++) {
            all.append(k == 0 ? "" : " ").append(x.status(k));
        }
        return all.toString();
    }

    SoapDeeds good(int statements, String text) {
        SoapDeeds x = new SoapDeeds();
        int got = room(x, text);
        if (got != statements || x.fault(0) != 0 || x.fault(1) != NONE) {
            say("room() answered " + got + " with FAULT " + x.fault(0) + " at " + x.fault(1) + ", due are " + statements + ": " + text);
        }
        return x;
    }

    /** A ^ stands ahead of the byte at which the FAULT is due. */
    void fault(int kind, String marked) {
        int place = marked.indexOf('^');
        faultAt(kind, place, marked.substring(0, place) + marked.substring(place + 1));
    }

    void faultAt(int kind, int place, String text) {
        SoapDeeds x = new SoapDeeds();
        int got = room(x, text);
        if (got != NONE || x.fault(0) != kind || x.fault(1) != place) {
            say("room() answered " + got + " with FAULT " + x.fault(0) + " at " + x.fault(1) + ", due is " + kind + " at " + place + ": " + text);
        }
    }
}
