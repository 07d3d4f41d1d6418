import java.io.IOException;
import java.nio.charset.StandardCharsets;
import java.nio.file.Files;
import java.nio.file.Path;
import java.nio.file.Paths;
import java.util.function.Consumer;

/** What the tests of the document's edges share: no test itself. */
final class Edges {
    static final int NONE = FirstChimney.NONE;
    static final int LEAST = Integer.MIN_VALUE;
    static final int MOST = Integer.MAX_VALUE;

    /** As many PLACES, paths, PERSONS and THINGS as can be told: a to g, h to l, m to r. */
    static final String FULL = "place a;place b;place c;place d;place e;place f;place g;"
            + "path a b;path a c;path a d;path a e;path a f;path a g;path b c;path c d;path d e;path e f;"
            + "person h plain in a wakes 0;person i bench in a wakes 0;person j slow in b wakes 0;"
            + "person k mute in a wakes 1;person l plain in g wakes 30;"
            + "thing m worth 0 of h;thing n worth 30 of h;thing o worth 1 of i;thing p worth 2 of j;"
            + "thing q worth 3 of k;thing r worth 4 of l;smoke 60;binds judge;";

    private static final Path DOCUMENT = Paths.get("..", "shared", "DOC.md");

    private static String document;
    private static String sentence = "";
    private static int wrong = 0;
    private static int asked = 0;

    private Edges() {
    }

    /** What follows is for these words of the document, which a promise uses; that they stand there is looked up. */
    static void of(int promise, String words) {
        sentence = "promise " + promise + ", \"" + words + "\": ";
        if (!document().isEmpty() && !document().contains(plain(words))) {
            wrong++;
            System.out.println(sentence + "does not stand in the document");
        }
    }

    private static String document() {
        if (document == null) {
            try {
                document = Files.exists(DOCUMENT)
                        ? plain(new String(Files.readAllBytes(DOCUMENT), StandardCharsets.UTF_8)) : "";
            } catch (IOException e) {
                document = "";
            }
        }
        return document;
    }

    private static String plain(String text) {
        return text.replaceAll("\\s+", " ").trim();
    }

    static void due(String what, long want, long got) {
        asked++;
        if (want != got) {
            wrong++;
            System.out.println(sentence + what + " answered " + got + ", due is " + want);
        }
    }

    static void due(String what, boolean want, boolean got) {
        due(what, want ? 1 : 0, got ? 1 : 0);
    }

    static void due(String what, String want, String got) {
        asked++;
        if (!want.equals(got)) {
            wrong++;
            System.out.println(sentence + what + "\n  is  " + got + "\n  due " + want);
        }
    }

    static void end() {
        System.out.println(wrong == 0 ? "all " + asked + " answers are as due" : wrong + " answers are not as due");
        if (wrong != 0) {
            System.exit(1);
        }
    }

    static int feed(FirstChimney x, String text) {
        int there = 0;
        for (int from = 0; from < text.length(); from += 24) {
            long[] parts = new long[3];
            for (int i = 0; i < 24; i++) {
                int sign = from + i < text.length() ? text.charAt(from + i) : 0;
                parts[i / 8] = parts[i / 8] << 8 | sign;
            }
            there = x.feed(parts[0], parts[1], parts[2]);
        }
        return there;
    }

    static int land(FirstChimney x, String text) {
        feed(x, text);
        return x.land();
    }

    static int morning(FirstChimney x, String text) {
        feed(x, text);
        return x.morning();
    }

    /** A new object with that LAND, which has to be without a FAULT. */
    static FirstChimney told(String text) {
        FirstChimney x = new FirstChimney();
        due("land of " + text, 0, land(x, text));
        return x;
    }

    static void minutes(FirstChimney x, int number) {
        for (int i = 0; i < number; i++) {
            x.minute();
        }
    }

    static String repeated(String text, int times) {
        StringBuilder all = new StringBuilder();
        for (int i = 0; i < times; i++) {
            all.append(text);
        }
        return all.toString();
    }

    /** Many PERSONS of one KIND, h to l, in PLACE a. */
    static String people(int number, String kind, int wakes) {
        StringBuilder all = new StringBuilder();
        for (int i = 0; i < number; i++) {
            all.append("person ").append((char) ('h' + i)).append(' ').append(kind).append(" in a wakes ").append(wakes).append(';');
        }
        return all.toString();
    }

    /**
     * FULL in its minute 1, with a MORNING, one SEEN, MARKS 0 and 3, five deeds to be undone: h, i have ACTED
     * (a vow), j is slow and WALKED from b to a in minute 0, k is READY, l sleeps in g, m is with i by no right.
     */
    static FirstChimney busy() {
        FirstChimney x = told(FULL);
        morning(x, "minute;give m k;vow h i;");
        x.give(0, 1);
        x.mark(0, false);
        x.walk(2, 0);
        x.see(0, 3, true);
        x.minute();
        x.mark(3, false);
        x.vow(0, 1);
        return x;
    }

    /** All that can be asked of an object and does not change it; some hundred calls. */
    static String view(FirstChimney x) {
        StringBuilder all = new StringBuilder();
        for (int what = 0; what <= 13; what++) {
            all.append(x.count(what)).append(what < 13 ? "," : " places ");
        }
        for (int place = 0; place < x.count(0); place++) {
            all.append(x.place(place, 0)).append(',').append(x.place(place, 1)).append(',').append(x.place(place, 2)).append(' ');
        }
        all.append("persons ");
        for (int person = 0; person < x.count(2); person++) {
            for (int what = 0; what <= 5; what++) {
                all.append(x.person(person, what)).append(',');
            }
            all.append(x.vows(person, false)).append(',').append(x.vows(person, true)).append(',').append(x.heard(person)).append(' ');
        }
        all.append("things ");
        for (int thing = 0; thing < x.count(3); thing++) {
            all.append(x.thing(thing, 0)).append(',').append(x.thing(thing, 1)).append(',').append(x.thing(thing, 2)).append(' ');
        }
        all.append("judged ").append(x.judged(0)).append(',').append(x.judged(1)).append(',').append(x.judged(2));
        return all.append(" who ").append(x.who()).toString();
    }

    /** That a call leaves all as it was: how all is, what UNDO brings back, what is on the MARKS, the TAPE. */
    static void leaves(String what, Consumer<FirstChimney> call) {
        leaves(what, "tea;", call);
    }

    /** Likewise, with that on the TAPE ahead of the call. */
    static void leaves(String what, String tape, Consumer<FirstChimney> call) {
        for (int later = 0; later <= 6; later++) {
            FirstChimney left = busy();
            FirstChimney touched = busy();
            feed(left, tape);
            feed(touched, tape);
            call.accept(touched);
            goOn(left, later);
            goOn(touched, later);
            due(what + " leaves all as it was (" + later + ")", view(left), view(touched));
        }
    }

    private static void goOn(FirstChimney x, int later) {
        if (later == 1 || later == 2) {
            x.undo();
        }
        if (later == 2) {
            x.undo();
        }
        if (later >= 3) {
            due("MARK " + (later - 3), later == 3 || later == 6, x.mark(later - 3, true));
        }
    }
}
