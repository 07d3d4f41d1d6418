import java.util.NoSuchElementException;

/** Each promise of the document, by answers reckoned by hand from its words. */
public final class PromisesTest {
    private static final String VALLEY = "place inn; place field; place mill; place barn; place moor;\n"
            + "path inn field; path field mill; path mill barn; path barn field;\n"
            + "person ann plain in inn wakes 0; person bea bench in inn wakes 0; person cy slow in field wakes 0;"
            + "person dot mute in field wakes 2; person eve plain in barn wakes 3;\n"
            + "thing pie worth 5 of ann; thing ring worth 20 of bea; thing hat worth 5 of cy;\n"
            + "smoke 6; binds judge = 1 and price < 10 or crowd + clock * 2 = 5;";
    private static final int ANN = 0;
    private static final int BEA = 1;
    private static final int CY = 2;
    private static final int DOT = 3;
    private static final int EVE = 4;
    private static final int INN = 0;
    private static final int FIELD = 1;
    private static final int MILL = 2;
    private static final int BARN = 3;
    private static final int MOOR = 4;
    private static final int PIE = 0;
    private static final int RING = 1;
    private static final int HAT = 2;
    private static final int NONE = FirstChimney.NONE;

    private static int wrong = 0;

    private static void due(String what, long want, long got) {
        if (want != got) {
            wrong++;
            System.out.println(what + " answered " + got + ", due is " + want);
        }
    }

    private static void due(String what, boolean want, boolean got) {
        due(what, want ? 1 : 0, got ? 1 : 0);
    }

    static int feed(FirstChimney x, String text) {
        int there = x.count(13);
        for (int from = 0; from < text.length(); from += 24) {
            long[] parts = new long[3];
            for (int i = 0; i < 24; i++) {
                int sign = from + i < text.length() ? text.charAt(from + i) : 0;
                parts[i / 8] = parts[i / 8] << 8 | sign;
            }
            there = x.feed(parts[0], parts[1], parts[2]);
        }
        return there;
    }

    private static int land(FirstChimney x, String text) {
        feed(x, text);
        return x.land();
    }

    private static int morning(FirstChimney x, String text) {
        feed(x, text);
        return x.morning();
    }

    private static FirstChimney of(String text) {
        FirstChimney x = new FirstChimney();
        due("land of " + text, 0, land(x, text));
        return x;
    }

    private static FirstChimney valley() {
        return of(VALLEY);
    }

    private static void minutes(FirstChimney x, int number) {
        for (int i = 0; i < number; i++) {
            x.minute();
        }
    }

    private static void landFault(int kind, int at, String text) {
        FirstChimney x = valley();
        x.walk(ANN, FIELD);
        x.see(INN, 1, true);
        x.mark(2, false);
        morning(x, "minute;");
        due("land of " + text, kind + 16 * at, land(x, text));
        due("PLACES stay by " + text, 5, x.count(0));
        due("where ann is stays by " + text, FIELD, x.person(ANN, 2));
        due("what can be undone stays by " + text, 1, x.count(12));
        due("SEEN stays by " + text, 1, x.count(11));
        due("lines stay by " + text, 1, x.count(10));
        due("the TAPE is empty by " + text, 0, x.count(13));
        due("the MARK stays by " + text, true, x.mark(2, true));
    }

    /** The fault is at the sign ^, which is left out. */
    private static void landFaultHere(int kind, String text) {
        landFault(kind, text.indexOf('^'), text.replace("^", ""));
    }

    private static void morningFaultHere(int kind, String text) {
        FirstChimney x = valley();
        morning(x, "minute; minute;");
        due("morning of " + text, kind + 16 * text.indexOf('^'), morning(x, text.replace("^", "")));
        due("lines stay by " + text, 2, x.count(10));
        due("the TAPE is empty by " + text, 0, x.count(13));
    }

    private static void aNewObject() {
        FirstChimney x = new FirstChimney();
        due("NONE", -1, FirstChimney.NONE);
        int[] counts = {0, 0, 0, 0, 30, 0, 0, 0, 0, 0, 0, 0, 0, 0};
        for (int what = 0; what < counts.length; what++) {
            due("new count " + what, counts[what], x.count(what));
        }
        due("new back", 0, x.back());
        due("new alone", 0, x.alone());
        due("new cuts", 0, x.cuts());
        due("new hub", NONE, x.hub());
        due("new wide", NONE, x.wide());
        due("new rich", NONE, x.rich(false));
        due("new all", NONE, x.all(1));
        due("new news", 0, x.news());
        due("new who", 0, x.who());
        due("new ask", NONE, x.ask());
        due("new undo", false, x.undo());
        due("new mark back", false, x.mark(0, true));
        due("new judged", NONE, x.judged(0));
        due("new judged 2", 0, x.judged(2));
        due("new mornings", 0, x.mornings(0, 99, 2));
        due("new mark", true, x.mark(0, false));
        minutes(x, 29);
        due("new, the 30th minute", true, x.minute());
        due("new morning", 1, x.count(5));
        due("new, gone back", true, x.mark(0, true));
        due("new morning, gone back", 0, x.count(5));
        due("an empty LAND", 0, x.land());
        due("an empty MORNING", 0, x.morning());
    }

    private static void feeding() {
        FirstChimney x = new FirstChimney();
        due("feed of nothing", 0, x.feed(0, 0, 0));
        due("feed of signs that are none", 0, x.feed(-1L, 0x7F7F_801F_0B09_0DFFL, Long.MIN_VALUE));
        due("feed of edges", 4, x.feed(0x0A20_7E7F_1F0B_0920L, 0, 0));
        FirstChimney y = new FirstChimney();
        due("feed a, b, c", 18, y.feed(0x706C616365206161L, 0x3B706C6163652062L, 0x623BL << 48));
        due("their order", 0, y.land());
        due("both PLACES", 2, y.count(0));
        FirstChimney z = new FirstChimney();
        for (int i = 0; i < 41; i++) {
            z.feed(0x2020202020202020L, 0x2020202020202020L, 0x2020202020202020L);
        }
        due("ahead of the end", 984, z.count(13));
        due("the thousandth sign", 1000, z.feed(0x2020202020202020L, 0x202020202020203BL, 0x706C616365206161L));
        due("beyond it", 1000, z.feed(0x2020202020202020L, 0, 0));
        due("the last sign is kept", 1 + 16 * 999, z.land());
        due("empty then", 0, z.count(13));
        FirstChimney u = new FirstChimney();
        feed(u, "place aa ; pla");
        due("a word goes on", 24, feed(u, "ce bb ; p!"));
        due("to the sign that is none", 1 + 16 * 22, u.land());
    }

    private static void lands() {
        FirstChimney x = valley();
        int[] counts = {5, 4, 5, 3, 6, 0, 0, 7, 0, 0, 0, 0, 0, 0};
        for (int what = 0; what < counts.length; what++) {
            due("valley count " + what, counts[what], x.count(what));
        }
        due("signs without blanks", 0, land(x, "place a;place b;path a b;person p plain in a wakes0;smoke0060;binds 1and not(2)or 3*4;"));
        due("smoke with noughts", 60, x.count(4));
        due("facts as NAMES", 0, land(x, "place clock ; person judge bench in clock wakes 30 ; thing price worth 30 of judge ; binds clock ;"));
        due("blanks alone", 0, land(x, " \n "));
        due("no PLACES", 0, x.count(0));
        due("smoke untold", 30, x.count(4));
        due("eight letters", 0, land(x, "place abcdefgh; place abcdefgi;"));
        due("all there may be", 0, land(x, "place a;place b;place c;place d;place e;place f;place g;"
                + "path a b;path a c;path a d;path a e;path a f;path a g;path b c;path b d;path b e;path b f;"
                + "person h plain in a wakes 0;person i plain in a wakes 0;person j plain in a wakes 0;"
                + "person k plain in a wakes 0;person l plain in a wakes 0;"
                + "thing m worth 0 of h;thing n worth 0 of h;thing o worth 0 of h;thing p worth 0 of h;thing q worth 0 of h;thing r worth 0 of h;"));
        due("ten paths", 10, x.count(1));
        x = valley();
        x.walk(ANN, FIELD);
        x.minute();
        x.see(INN, 1, true);
        x.mark(3, false);
        morning(x, "minute;");
        due("told again", 0, land(x, VALLEY));
        due("minute 0", 0, x.count(6));
        due("in their HOUSES", INN, x.person(ANN, 2));
        due("nothing HEARD", 4, x.heard(CY));
        due("no MORNING", 0, x.count(10));
        due("nothing SEEN", 0, x.count(11));
        due("nothing can be undone", 0, x.count(12));
        due("undo", false, x.undo());
        due("no MARK", false, x.mark(3, true));
    }

    private static void landFaults() {
        landFaultHere(1, "^field");
        landFaultHere(1, "^;");
        landFaultHere(1, "^minute ;");
        landFaultHere(1, "^1");
        landFaultHere(1, "place^");
        landFaultHere(1, "place  ^");
        landFaultHere(1, "place ^1 ;");
        landFaultHere(1, "place ^A ;");
        landFaultHere(1, "place ^abcdefghi ;");
        landFaultHere(1, "place a^");
        landFaultHere(1, "place a ^b ;");
        landFaultHere(1, "place a ; ^;");
        for (String word : ("place path person in wakes thing worth of smoke binds minute walk give vow plain bench"
                + " slow mute not and or").split(" ")) {
            landFaultHere(1, "place ^" + word + " ;");
        }
        landFaultHere(2, "path ^a b ;");
        landFaultHere(1, "path ^in b ;");
        landFaultHere(2, "place a ; path a ^b ;");
        landFaultHere(3, "place a ; path a ^a ;");
        landFaultHere(1, "place a ; path a ^; ");
        landFaultHere(3, "place a;place b;path a b;path a ^b;");
        landFaultHere(3, "place a;place b;path a b;path b ^a;");
        landFaultHere(2, "place a;person p plain in a wakes 0;path a ^p;");
        landFaultHere(3, "place a ; place ^a ;");
        landFaultHere(3, "place a;person p plain in a wakes 0;place ^p;");
        landFaultHere(3, "place a;person p plain in a wakes 0;person ^p plain in a wakes 0;");
        landFaultHere(3, "place a;person p plain in a wakes 0;thing ^a worth 1 of p;");
        landFaultHere(3, "place a;person p plain in a wakes 0;thing t worth 1 of p;place ^t;");
        landFaultHere(1, "place a;person p ^kind in a wakes 0;");
        landFaultHere(1, "place a;person p ^in a wakes 0;");
        landFaultHere(1, "place a;person p plain ^of a wakes 0;");
        landFaultHere(1, "place a;person p plain ^;");
        landFaultHere(1, "place a;person p plain in a wakes ^;");
        landFaultHere(1, "place a;person p plain in a wakes 1;thing t worth 3 ^;");
        landFaultHere(1, "place a;person p plain in a wakes 1;thing t worth 3 of ^;");
        landFaultHere(2, "place a;person p plain in ^p wakes 0;");
        landFaultHere(1, "place a;person p plain in a ^worth 0;");
        landFaultHere(4, "place a;person p plain in a wakes ^31;");
        landFaultHere(1, "place a;person p plain in a wakes ^12345;");
        landFaultHere(1, "place a;person p plain in a wakes ^p;");
        landFaultHere(1, "place a;person p plain in a wakes 1^p;");
        landFaultHere(4, "place a;person p plain in a wakes 1;thing t worth ^31 of p;");
        landFaultHere(2, "place a;person p plain in a wakes 1;thing t worth 3 of ^a;");
        landFaultHere(2, "place a;person p plain in a wakes 1;thing t worth 3 of ^t;");
        landFaultHere(1, "place a;person p plain in a wakes 1;thing t worth 3 ^in p;");
        landFaultHere(4, "smoke ^0;");
        landFaultHere(4, "smoke ^61;");
        landFaultHere(1, "smoke ^00030;");
        landFaultHere(1, "smoke ^- 3;");
        landFaultHere(3, "smoke 3; place a; ^smoke 3;");
        landFaultHere(3, "binds 3; ^binds ;");
        landFaultHere(5, "place a;place b;place c;place d;place e;place f;place g;^place in;");
        landFaultHere(5, "place a;place b;place c;place d;place e;place f;place g;"
                + "path a b;path a c;path a d;path a e;path a f;path a g;path b c;path b d;path b e;path b f;^path ;");
        landFaultHere(5, "place a;person b plain in a wakes 0;person c plain in a wakes 0;person d plain in a wakes 0;"
                + "person e plain in a wakes 0;person f plain in a wakes 0;^person ;");
        landFaultHere(5, "place a;person b plain in a wakes 0;thing c worth 0 of b;thing d worth 0 of b;thing e worth 0 of b;"
                + "thing f worth 0 of b;thing g worth 0 of b;thing h worth 0 of b;^thing");
    }

    private static void lawFaults() {
        landFaultHere(1, "binds ^;");
        landFaultHere(1, "binds ^clocks;");
        landFaultHere(1, "binds ^in;");
        landFaultHere(1, "binds ^- 1;");
        landFaultHere(1, "binds ^);");
        landFaultHere(1, "binds (^);");
        landFaultHere(1, "binds 1 ^);");
        landFaultHere(1, "binds ( 1 ^;");
        landFaultHere(1, "binds ( 1^");
        landFaultHere(1, "binds 1 ^1;");
        landFaultHere(1, "binds 1 ^clock;");
        landFaultHere(1, "binds 1 ^not 1;");
        landFaultHere(1, "binds 1 ^(1);");
        landFaultHere(1, "binds 1 + ^;");
        landFaultHere(1, "binds 1 and ^or 1;");
        landFaultHere(1, "binds 1 < 2 ^= 1;");
        landFaultHere(1, "binds 1 + 1 = 2 * 1 ^< 1;");
        landFaultHere(1, "binds (1 < 2) = 1 and (1 = 1 ^< 1);");
        landFaultHere(1, "binds 1 ^! 1;");
        landFaultHere(1, "binds ^12345;");
        landFaultHere(5, "binds not not not not not ^1;");
        landFaultHere(5, "binds not not not not not ^not 1;");
        landFaultHere(5, "binds ((((( ^(1))))));");
        landFaultHere(5, "binds not ( not ( not ^clock ) );");
        landFaultHere(1, "binds not ( not ( not ^) ) );");
        landFaultHere(1, "binds not not not not not ^field ;");
        landFaultHere(5, "binds ((((1) and ((^(1))))));");
        of("binds not not not not 1;");
        of("binds ((((1))) < (not (2))) = 1;");
        of("binds (((not 1 + 1)) = (1)) or 1 = 2 and 3;");
    }

    private static void mornings40() {
        FirstChimney x = valley();
        StringBuilder text = new StringBuilder();
        for (int i = 0; i < 40; i++) {
            text.append(i % 2 == 0 ? "minute;" : "walk ann inn;");
        }
        due("40 lines", 0, morning(x, text.toString()));
        due("their number", 40, x.count(10));
        due("a 41st", 5 + 16 * text.length(), morning(x, text + "give"));
        due("a 41st that is none", 1 + 16 * text.length(), morning(x, text + "tea"));
        due("lines stay", 40, x.count(10));
        due("none", 0, morning(x, "\n"));
        due("lines", 0, x.count(10));
        morningFaultHere(1, "^place a;");
        morningFaultHere(1, "minute^");
        morningFaultHere(1, "minute ^minute;");
        morningFaultHere(1, "walk ^in");
        morningFaultHere(2, "walk ^inn inn;");
        morningFaultHere(2, "walk ^tim inn;");
        morningFaultHere(2, "walk ann ^pie;");
        morningFaultHere(1, "walk ann ^;");
        morningFaultHere(1, "walk ann inn ^inn;");
        morningFaultHere(2, "give ^ann bea;");
        morningFaultHere(2, "give pie ^inn;");
        morningFaultHere(2, "vow ^pie ann;");
        morningFaultHere(2, "vow ann ^pie;");
        morningFaultHere(3, "vow ann ^ann;");
        morningFaultHere(1, "vow ann ^1;");
        FirstChimney y = new FirstChimney();
        due("no one told", 2 + 16 * 4, morning(y, "vow ann bea;"));
        due("a minute needs nobody", 0, morning(y, "minute;"));
    }

    private static void placesPersonsThings() {
        FirstChimney x = valley();
        due("place 0", 1 << FIELD, x.place(INN, 0));
        due("place field 0", 1 << INN | 1 << MILL | 1 << BARN, x.place(FIELD, 0));
        due("place moor 0", 0, x.place(MOOR, 0));
        due("place 1", 12, x.place(FIELD, 1));
        due("place 2", 4, x.place(FIELD, 2));
        due("place -1", NONE, x.place(-1, 0));
        due("place 5", NONE, x.place(5, 0));
        due("place what", NONE, x.place(0, 3));
        due("place what -1", NONE, x.place(0, -1));
        for (int person = 0; person < 5; person++) {
            due("KIND", new int[] {0, 1, 2, 3, 0}[person], x.person(person, 0));
            due("HOUSE", new int[] {0, 0, 1, 1, 3}[person], x.person(person, 1));
            due("AWAKE", new int[] {1, 1, 1, 0, 0}[person], x.person(person, 3));
            due("READY", new int[] {1, 1, 1, 0, 0}[person], x.person(person, 4));
            due("THINGS", new int[] {1, 2, 4, 0, 0}[person], x.person(person, 5));
        }
        due("person -1", NONE, x.person(-1, 0));
        due("person 5", NONE, x.person(5, 0));
        due("person what", NONE, x.person(0, 6));
        due("person what -1", NONE, x.person(0, -1));
        due("worth", 20, x.thing(RING, 0));
        due("with", CY, x.thing(HAT, 1));
        due("right", BEA, x.thing(RING, 2));
        due("thing 3", NONE, x.thing(3, 0));
        due("thing -1", NONE, x.thing(-1, 0));
        due("thing what", NONE, x.thing(0, 3));
        x.walk(ANN, FIELD);
        due("ann's HOUSE", INN, x.person(ANN, 1));
        due("ann is", FIELD, x.person(ANN, 2));
        due("ann has ACTED", 0, x.person(ANN, 4));
        minutes(x, 2);
        due("dot is AWAKE", 1, x.person(DOT, 3));
        due("dot is READY", 1, x.person(DOT, 4));
        due("AWAKE at field", 13, x.place(FIELD, 2));
    }

    private static void walking() {
        FirstChimney x = valley();
        due("no path", false, x.walk(ANN, MILL));
        due("where one is", false, x.walk(ANN, INN));
        due("asleep", false, x.walk(DOT, MILL));
        due("others", false, x.walk(5, FIELD));
        due("others -1", false, x.walk(-1, FIELD));
        due("no PLACE", false, x.walk(ANN, 5));
        due("no PLACE -1", false, x.walk(ANN, Integer.MIN_VALUE));
        due("nothing was done", 0, x.count(12));
        due("walk", true, x.walk(ANN, FIELD));
        due("twice", false, x.walk(ANN, MILL));
        due("slow", true, x.walk(CY, MILL));
        x.minute();
        due("again", true, x.walk(ANN, MILL));
        due("a slow one in the next", false, x.walk(CY, BARN));
        x.minute();
        due("a slow one then", true, x.walk(CY, BARN));
        due("dot wakes", true, x.walk(DOT, INN));
    }

    private static void giving() {
        FirstChimney x = valley();
        due("to oneself", NONE, x.give(PIE, ANN));
        due("elsewhere", NONE, x.give(PIE, CY));
        due("to one asleep", NONE, x.give(HAT, DOT));
        due("no THING", NONE, x.give(3, ANN));
        due("no THING -1", NONE, x.give(-1, ANN));
        due("nobody", NONE, x.give(PIE, 5));
        due("a gift", 0, x.give(PIE, BEA));
        due("with", BEA, x.thing(PIE, 1));
        due("by right", ANN, x.thing(PIE, 2));
        due("the HOLDER has ACTED", 0, x.person(ANN, 4));
        due("the other has not", 1, x.person(BEA, 4));
        due("to one who has ACTED", 0, x.give(RING, ANN));
        due("one who has ACTED", NONE, x.give(PIE, ANN));
        due("goes back", 3, x.back());
        FirstChimney y = valley();
        y.walk(BEA, FIELD);
        y.minute();
        y.walk(ANN, FIELD);
        y.minute();
        // cy to dot, bea of the Bench by: judge = 1, price 5.
        due("it BINDS", 1, y.give(HAT, DOT));
        due("by right now", DOT, y.thing(HAT, 2));
        // ann to bea: cy, dot by: judge 0, crowd 2, clock 2: 6.
        due("it does not", 0, y.give(PIE, BEA));
        due("goes back one", 1, y.back());
        due("a slow giver", 0, y.person(CY, 4));
        y.minute();
        due("is READY then", 1, y.person(CY, 4));
        // bea's ring, worth 20, to cy at clock 3: ann, dot by, 2 + 6.
        due("dear", 0, y.give(RING, CY));
    }

    private static void vowing() {
        FirstChimney x = valley();
        due("with oneself", NONE, x.vow(ANN, ANN));
        due("apart", NONE, x.vow(ANN, CY));
        due("nobody", NONE, x.vow(ANN, 5));
        due("nobody -1", NONE, x.vow(-1, ANN));
        due("a vow", 0, x.vow(ANN, BEA));
        due("vows", 2, x.vows(ANN, false));
        due("vows of the other", 1, x.vows(BEA, false));
        due("vows by right", 0, x.vows(ANN, true));
        due("both have ACTED", 0, x.person(ANN, 4) + x.person(BEA, 4));
        due("number", 1, x.count(8));
        x.minute();
        due("vowed already", NONE, x.vow(BEA, ANN));
        x.walk(ANN, FIELD);
        x.walk(BEA, FIELD);
        x.minute();
        due("mute", NONE, x.vow(DOT, ANN));
        due("with a mute one", NONE, x.vow(ANN, DOT));
        // ann and cy, bea and dot by: judge 1, price 0.
        due("it BINDS", 1, x.vow(ANN, CY));
        due("vows two", 6, x.vows(ANN, false));
        due("by right", 4, x.vows(ANN, true));
        due("by right of the other", 1, x.vows(CY, true));
        due("not READY", NONE, x.vow(BEA, CY));
        due("two", 2, x.count(8));
        due("one by right", 1, x.count(9));
        minutes(x, 4);
        due("SMOKE", 0, x.count(6));
        due("by right alone", 4, x.vows(ANN, false));
        due("none", 0, x.vows(BEA, false));
        due("number at last", 1, x.count(8));
        due("vow again", 0, x.vow(ANN, BEA));
        due("vows of nobody", NONE, x.vows(5, true));
        due("vows of nobody -1", NONE, x.vows(-1, false));
    }

    private static void theLaw() {
        law(1, "1");
        law(0, "0");
        law(1, "2 - 1");
        law(0, "1 - 1 + 0");
        law(1, "1 - 1 + 1");
        law(1, "1 + 2 * 3 = 7");
        law(1, "(1 + 2) * 3 = 9");
        law(1, "10 - 3 - 2 = 5");
        law(0, "1 or 1 and 0");
        law(1, "0 and 0 or 1");
        law(1, "1 or (1 and 0)");
        law(1, "not 5 = 0");
        law(1, "not 0 = 1");
        law(1, "not not 7 = 1");
        law(1, "not 1 + 1");
        law(0, "not (1 + 1)");
        law(1, "(5 and 6) + (0 or 7) = 2");
        law(1, "(3 < 4) + (4 < 4) + (4 = 4) = 2");
        law(1, "0 - 1 < 0");
        law(1, "price = 7 and crowd = 2 and judge = 1 and clock = 0");
        law(1, "9999 * 9999 * 9999 < 0");
        law(0, "2048 * 2048 * 1024");
        law(1, "0 * 3 + 2 < 3 and 3");
    }

    private static void law(int want, String text) {
        FirstChimney x = of("place p; person a plain in p wakes 0; person b bench in p wakes 0; person c bench in p wakes 0;"
                + "person d mute in p wakes 0; person e bench in p wakes 1; thing t worth 7 of a; binds " + text + ";");
        due("binds " + text + " would", want, x.would(0, 1) ? 1 : 0);
        due("binds " + text, want, x.give(0, 1));
    }

    private static void theMinute() {
        FirstChimney x = valley();
        x.give(PIE, BEA);
        x.walk(CY, MILL);
        due("no SMOKE", false, x.minute());
        due("HEARD at the inn", 3, x.heard(ANN));
        due("HEARD of bea", 3, x.heard(BEA));
        due("cy", 4, x.heard(CY));
        due("nobody of nobody", NONE, x.heard(5));
        due("heard -1", NONE, x.heard(-1));
        due("ann is READY", 1, x.person(ANN, 4));
        due("cy is not", 0, x.person(CY, 4));
        x.walk(ANN, FIELD);
        x.minute();
        due("dot slept", 8, x.heard(DOT));
        due("ann has not HEARD of dot", 3, x.heard(ANN));
        due("cy is READY", 1, x.person(CY, 4));
        x.minute();
        due("dot has HEARD what ann has", 11, x.heard(DOT));
        due("bea has not", 3, x.heard(BEA));
        x.minute();
        x.minute();
        due("minute 5", 5, x.count(6));
        x.walk(CY, FIELD);
        due("with bea", BEA, x.thing(PIE, 1));
        due("SMOKE", true, x.minute());
        due("minute 0", 0, x.count(6));
        due("morning 1", 1, x.count(5));
        due("pie with ann", ANN, x.thing(PIE, 1));
        due("ann at the inn", INN, x.person(ANN, 2));
        due("cy, slow, is READY", 1, x.person(CY, 4));
        due("dot sleeps", 0, x.person(DOT, 3));
        due("HEARD stays", 15, x.heard(DOT));
        FirstChimney y = of("smoke 1;");
        due("smoke 1", true, y.minute());
        due("smoke 1 again", true, y.minute());
        due("two mornings", 2, y.count(5));
    }

    private static void undoing() {
        FirstChimney x = valley();
        x.walk(CY, MILL);
        x.give(PIE, BEA);
        x.minute();
        x.vow(ANN, BEA);
        due("four", 4, x.count(12));
        due("vow undone", true, x.undo());
        due("no vow", 0, x.count(8));
        due("READY", 1, x.person(BEA, 4));
        due("minute undone", true, x.undo());
        due("minute 0", 0, x.count(6));
        due("not HEARD", 1, x.heard(ANN));
        due("ACTED", 0, x.person(ANN, 4));
        due("gift undone", true, x.undo());
        due("pie", ANN, x.thing(PIE, 1));
        due("walk undone", true, x.undo());
        due("cy", FIELD, x.person(CY, 2));
        due("no more", false, x.undo());
        FirstChimney y = valley();
        minutes(y, 5);
        y.give(RING, ANN);
        y.see(INN, 0, true);
        y.minute();
        due("SMOKE undone", true, y.undo());
        due("minute 5", 5, y.count(6));
        due("morning 0", 0, y.count(5));
        due("ring with ann", ANN, y.thing(RING, 1));
        due("SEEN stays", 1, y.count(11));
        FirstChimney z = of("smoke 60;");
        minutes(z, 20);
        due("sixteen", 16, z.count(12));
        for (int i = 0; i < 16; i++) {
            due("undo " + i, true, z.undo());
        }
        due("a seventeenth", false, z.undo());
        due("minute 4", 4, z.count(6));
        minutes(z, 3);
        due("three", 3, z.count(12));
        z.undo();
        due("minute 6", 6, z.count(6));
    }

    private static void judging() {
        FirstChimney x = valley();
        due("nothing told", NONE, x.judged(0));
        due("others", -2, x.judged(3));
        due("others -1", -2, x.judged(-1));
        due("a morning", 0, morning(x, "walk bea field; minute; walk ann mill; walk ann field; minute; give hat dot; give pie bea; minute;"));
        due("nothing is done by it", 0, x.count(6));
        due("can't be", 2, x.judged(0));
        due("BINDS", 5, x.judged(1));
        due("moved", 2, x.judged(2));
        x.minute();
        x.give(RING, ANN);
        due("from the begin, can't be", 2, x.judged(0));
        due("from the begin, moved", 2, x.judged(2));
        due("all is as it was", 1, x.count(6));
        morning(x, "vow ann bea; minute; minute; minute; minute; minute; give pie bea; minute; vow ann bea;");
        due("over the SMOKE", NONE, x.judged(0));
        due("no bond", NONE, x.judged(1));
        due("gone back", 0, x.judged(2));
        morning(x, "minute; vow ann bea; minute; vow ann bea; give pie cy;");
        due("a second vow", 3, x.judged(0));
        FirstChimney y = of("place p; person a plain in p wakes 0; person b plain in p wakes 0; thing t worth 1 of a; binds not price;");
        morning(y, "give t b; minute; vow a b; minute; give t a;");
        due("a vow BINDS", 2, y.judged(1));
        due("to and fro", 0, y.judged(2));
    }

    private static void soonMeetAll() {
        FirstChimney x = valley();
        due("there", 0, x.soon(ANN, INN));
        due("a path", 1, x.soon(ANN, FIELD));
        due("two paths", 2, x.soon(ANN, BARN));
        due("slow", 4, x.soon(CY, INN) + x.soon(CY, MILL));
        due("asleep there", 0, x.soon(DOT, FIELD));
        due("asleep", 3, x.soon(DOT, INN));
        due("never", NONE, x.soon(ANN, MOOR));
        due("nobody", NONE, x.soon(5, INN));
        due("nobody -1", NONE, x.soon(-1, INN));
        due("nowhere", NONE, x.soon(ANN, 5));
        due("nowhere -1", NONE, x.soon(ANN, -1));
        x.give(HAT, ANN);
        x.walk(CY, MILL);
        due("slow ACTED", 4, x.soon(CY, FIELD));
        x.walk(ANN, FIELD);
        due("ACTED", 2, x.soon(ANN, MILL));
        x.minute();
        due("slow, a minute on", 3, x.soon(CY, BARN));
        FirstChimney y = valley();
        due("meet there", 0, y.meet(ANN, BEA));
        due("meet asleep", 0, y.meet(CY, DOT));
        due("meet", 1, y.meet(ANN, CY));
        due("meet who wakes", 2, y.meet(ANN, EVE));
        due("meet oneself", NONE, y.meet(ANN, ANN));
        due("meet nobody", NONE, y.meet(ANN, 5));
        due("meet nobody -1", NONE, y.meet(-1, ANN));
        // field: ann 1, bea 1, cy 0, dot 0, eve 4; barn: 2, 2, 2, 3, 0.
        due("all where", BARN, y.all(0));
        due("all when", 3, y.all(1));
        due("all others", NONE, y.all(2));
        due("all others -1", NONE, y.all(-1));
        FirstChimney z = of("place a; place b; person p plain in a wakes 0; person q plain in b wakes 0;");
        due("never meet", NONE, z.meet(0, 1));
        due("all never", NONE, z.all(0));
        due("all never when", NONE, z.all(1));
        FirstChimney u = of("place a; place b; path a b; person p plain in b wakes 0; person q plain in a wakes 0;");
        due("the first of equal ones", 0, u.all(0));
        due("in one", 1, u.all(1));
    }

    private static void touring() {
        FirstChimney x = valley();
        due("tour ann", 3, x.tour(ANN));
        // field: mill, barn, field, inn, or inn, field, mill, barn: 4 paths.
        due("tour cy", 8, x.tour(CY));
        due("tour dot", 6, x.tour(DOT));
        due("tour eve", 3 + 3, x.tour(EVE));
        due("nobody", NONE, x.tour(5));
        due("nobody -1", NONE, x.tour(-1));
        x.walk(CY, INN);
        due("ACTED, slow", 2 + 6, x.tour(CY));
        FirstChimney star = of("place c;place d;place e;place f;place g;place h;place i;path c d;path c e;path c f;path c g;path c h;path c i;"
                + "person p slow in c wakes 30;person q plain in d wakes 0;");
        due("a star", 30 + 22, star.tour(0));
        due("from its end", 10, star.tour(1));
        FirstChimney alone = of("place a; place b; place c; path b c; person p slow in a wakes 9;");
        due("no other", 0, alone.tour(0));
    }

    private static void inTime() {
        FirstChimney x = valley();
        due("in time", true, x.intime(EVE, FIELD));
        due("on the smoke", true, x.intime(EVE, INN));
        due("never", false, x.intime(ANN, MOOR));
        due("nobody", false, x.intime(5, INN));
        due("nowhere", false, x.intime(0, -1));
        minutes(x, 4);
        due("5", true, x.intime(ANN, FIELD));
        due("6", false, x.intime(ANN, MILL));
        due("there", true, x.intime(ANN, INN));
        due("slow", false, x.intime(CY, INN));
        x.minute();
        due("last", false, x.intime(ANN, FIELD));
    }

    private static void couldWouldWhen() {
        FirstChimney x = valley();
        due("back", 0, x.back());
        due("could", 2, x.could(PIE));
        due("could to one asleep", 0, x.could(HAT));
        due("could others", NONE, x.could(3));
        due("could others -1", NONE, x.could(-1));
        // The inn at 0: ann to cy: bea by, judge 1.
        due("would apart", true, x.would(PIE, CY));
        due("would to the Bench", false, x.would(PIE, BEA));
        due("would, have it", false, x.would(PIE, ANN));
        due("would others", false, x.would(3, ANN));
        due("would nobody", false, x.would(PIE, 5));
        due("would nobody -1", false, x.would(-1, -1));
        due("when now", 0, x.when(PIE, CY));
        // ann to bea, nobody by: 2 * clock = 5 never.
        due("when never", NONE, x.when(PIE, BEA));
        // bea to cy, ann by: 1 + 2 * 2.
        due("when", 2, x.when(RING, CY));
        // cy to ann: dot by from 2 on: 1 + 4.
        due("when one wakes", 2, x.when(HAT, ANN));
        due("when to who wakes", NONE, x.when(HAT, DOT));
        due("when, have it", NONE, x.when(HAT, CY));
        due("when others", NONE, x.when(3, CY));
        due("when nobody", NONE, x.when(HAT, 5));
        minutes(x, 2);
        due("when is now", 2, x.when(RING, CY));
        due("would now", true, x.would(RING, CY));
        x.minute();
        due("too late", NONE, x.when(RING, CY));
        x.give(PIE, BEA);
        due("could, ACTED", 0, x.could(RING) & ~1);
        due("could of who ACTED", 2, x.could(RING) * 2);
        due("goes back", 1, x.back());
        FirstChimney y = of("place p;person a plain in p wakes 9;person b plain in p wakes 9;thing t worth 1 of a;smoke 4;binds clock = 4 or clock = 3;");
        due("asleep as if READY", 3, y.when(0, 1));
        due("could asleep", 0, y.could(0));
        FirstChimney z = of("place p;person a plain in p wakes 0;person b plain in p wakes 0;thing t worth 1 of a;smoke 4;binds clock = 4;");
        due("ahead of the SMOKE", NONE, z.when(0, 1));
    }

    private static void seesHeardNewsAlone() {
        FirstChimney x = valley();
        due("sees", 2 | 4 | 8, x.sees(ANN));
        due("sees from field", 1 | 2 | 8 | 16, x.sees(CY));
        due("sees from barn", 4 | 8, x.sees(EVE));
        due("sees nobody", NONE, x.sees(5));
        due("sees -1", NONE, x.sees(-1));
        due("heard", 1, x.heard(ANN));
        due("news never", NONE, x.news());
        due("alone", 4, x.alone());
        x.walk(ANN, FIELD);
        due("alone then", 2, x.alone());
        minutes(x, 3);
        due("alone, eve wakes", 2 | 16, x.alone());
        FirstChimney y = of("place p;person a plain in p wakes 0;person b plain in p wakes 3;person c plain in p wakes 1;smoke 9;");
        due("news", 4, y.news());
        due("nothing is done by it", 0, y.count(6));
        y.minute();
        due("news on", 3, y.news());
        FirstChimney z = of("place p;place q;path p q;person a plain in p wakes 0;person b plain in q wakes 0;person c plain in p wakes 0;smoke 3;");
        z.walk(0, 1);
        // a and b hear at the end of 0; a is back at the inn by the smoke of 3, c hears at the end of the next 0; b never of c.
        due("news by the SMOKE, never", NONE, z.news());
        z.walk(2, 1);
        due("news at one", 1, z.news());
        FirstChimney u = of("place p;place q;path p q;person a plain in p wakes 0;person b plain in q wakes 0;smoke 50;");
        u.minute();
        u.walk(1, 0);
        due("news of two", 1, u.news());
        FirstChimney v = of("place p;person a plain in p wakes 5;person b plain in p wakes 0;smoke 5;");
        due("never AWAKE", NONE, v.news());
        FirstChimney w = of("place p;place q;path p q;person a plain in p wakes 0;person b plain in p wakes 0;person c plain in q wakes 0;smoke 60;");
        w.walk(0, 1);
        w.walk(1, 1);
        w.minute();
        due("all have HEARD of all", 0, w.news());
        FirstChimney h = of("place p;place q;path p q;person a plain in p wakes 0;person b plain in p wakes 0;smoke 60;");
        h.walk(0, 1);
        due("by the SMOKE", 61, h.news());
        FirstChimney k = of("place p;person a plain in p wakes 30;person b plain in p wakes 0;smoke 60;");
        minutes(k, 1);
        due("by 30", 30, k.news());
    }

    private static void theWays() {
        FirstChimney x = valley();
        due("reach", 15, x.reach(INN));
        due("reach of moor", 16, x.reach(MOOR));
        due("reach others", NONE, x.reach(5));
        due("reach others -1", NONE, x.reach(-1));
        due("far the same", 0, x.far(MOOR, MOOR));
        due("far", 2, x.far(INN, BARN));
        due("far one", 1, x.far(BARN, FIELD));
        due("far never", NONE, x.far(INN, MOOR));
        due("far others", NONE, x.far(5, 0));
        due("far others -1", NONE, x.far(0, -1));
        due("cuts", 1 << FIELD, x.cuts());
        due("hub", MOOR, x.hub());
        due("links", 3, x.links(FIELD));
        due("links of moor", 0, x.links(MOOR));
        due("links others", NONE, x.links(5));
        due("links others -1", NONE, x.links(-1));
        due("wide", 2, x.wide());
        FirstChimney y = of("place a;place b;place c;place d;place e;place f;place g;path g f;path f e;path e d;path d c;path c b;path b a;");
        due("a row cuts", 2 + 4 + 8 + 16 + 32, y.cuts());
        due("a row's hub", 3, y.hub());
        due("a row wide", 6, y.wide());
        due("a row far", 6, y.far(6, 0));
        FirstChimney z = of("place a;place b;place c;place d;path a b;path c d;");
        due("two pairs cut", 0, z.cuts());
        due("two pairs' hub", 0, z.hub());
        due("two pairs wide", 1, z.wide());
        FirstChimney ring = of("place a;place b;place c;place d;place e;path b c;path c d;path d e;path e b;");
        due("a ring cuts", 0, ring.cuts());
        due("a ring wide", 8 + 3, ring.wide());
        due("no path", NONE, of("place a;place b;").wide());
    }

    private static void seenWhoAsk() {
        FirstChimney x = valley();
        due("who", 31, x.who());
        // At 0: the inn 2 of 5, the field 2 of 5: the first.
        due("ask", INN, x.ask());
        due("see", true, x.see(INN, 1, false));
        due("who not", 4 | 8 | 16, x.who());
        due("ask of three", FIELD, x.ask());
        due("see 2", true, x.see(INN, 2, true));
        due("who", 4, x.who());
        due("ask of one", NONE, x.ask());
        due("SEEN", 2, x.count(11));
        x.walk(CY, INN);
        // As all is when it is asked: cy is at the inn, nobody else is between.
        due("who, cy gone", 0, x.who());
        due("ask of nobody", NONE, x.ask());
        due("see nowhere", false, x.see(5, 0, true));
        due("see -1", false, x.see(-1, 0, true));
        due("see 100", false, x.see(INN, 100, true));
        due("see minutes -1", false, x.see(INN, -1, true));
        for (int i = 2; i < 8; i++) {
            due("see " + i, true, x.see(INN, 99, true));
        }
        due("a ninth", false, x.see(INN, 99, true));
        due("eight", 8, x.count(11));
        FirstChimney y = valley();
        y.see(MOOR, 99, true);
        due("never there", 0, y.who());
        FirstChimney z = of("place a;place b;path a b;person p plain in a wakes 7;person q plain in a wakes 7;person r slow in a wakes 7;person s plain in a wakes 20;");
        // b by 8: p, q can: two and two.
        due("ask by minutes", 8 * 8 + 1, z.ask());
        due("see 8", true, z.see(1, 8, false));
        due("ask r or s", 8 * 9 + 1, z.ask());
        FirstChimney w = of("place a;person p plain in a wakes 7;person q plain in a wakes 3;");
        due("none parts them", NONE, w.ask());
    }

    private static void hasRichSleeps() {
        FirstChimney x = valley();
        due("has", 20, x.has(BEA, false));
        due("has by right", 5, x.has(CY, true));
        due("has nothing", 0, x.has(EVE, false));
        due("has others", NONE, x.has(5, false));
        due("has others -1", NONE, x.has(-1, true));
        due("rich", BEA, x.rich(false));
        x.give(RING, ANN);
        due("has both", 25, x.has(ANN, false));
        due("has both by right", 5, x.has(ANN, true));
        due("rich now", ANN, x.rich(false));
        due("rich by right", BEA, x.rich(true));
        due("sleeps", 3, x.sleeps(EVE));
        due("sleeps not", 0, x.sleeps(ANN));
        due("sleeps others", NONE, x.sleeps(5));
        due("sleeps others -1", NONE, x.sleeps(-1));
        x.minute();
        due("sleeps on", 2, x.sleeps(EVE));
        minutes(x, 3);
        due("is up", 0, x.sleeps(EVE));
        FirstChimney y = of("place a;person p plain in a wakes 0;person q plain in a wakes 0;");
        due("of equal ones", 0, y.rich(true));
    }

    private static void chances() {
        FirstChimney x = valley();
        due("1 by 0", 1000000, x.chance(1, 0));
        due("6 by 10", 0, x.chance(6, 10));
        due("6 by 3", 117649, x.chance(6, 3));
        due("1 by 3", 700000, x.chance(1, 3));
        due("5 by 9", 10, x.chance(5, 9));
        due("0 minutes", NONE, x.chance(0, 3));
        due("7 minutes", NONE, x.chance(7, 3));
        due("odds 11", NONE, x.chance(1, 11));
        due("odds -1", NONE, x.chance(1, -1));
        minutes(x, 4);
        due("two ahead", 490000, x.chance(6, 3));
        due("one of two", 700000, x.chance(1, 3));
    }

    private static void resting() {
        // Lighting costs: both wait alone.
        rest("5 2 3", 5, 2, 3, 0);
        // It costs nothing: one may light, or neither.
        rest("5 0 3", 5, 0, 3, 0, 1, 2);
        rest("5 0 0", 5, 0, 0, 0, 1, 2);
        rest("0 0 0", 0, 0, 0, 0, 1, 2, 3);
        rest("0 0 1", 0, 0, 1, 0, 1, 2);
        rest("0 1 0", 0, 1, 0, 0, 3);
        rest("9 9 9", 9, 9, 9, 0);
        throwing("both 10", 10, 0, 0, NONE);
        throwing("both -1", -1, 0, 0, NONE);
        throwing("loses 10", 0, 10, 0, NONE);
        throwing("loses -1", 0, -1, 0, 0);
        throwing("gains 10", 0, 0, 10, NONE);
        throwing("gains -1", 0, 0, -1, 0);
        throwing("what -2", 5, 2, 3, -2);
        throwing("what least", 5, 2, 3, Integer.MIN_VALUE);
    }

    private static void rest(String name, int both, int loses, int gains, int... want) {
        FirstChimney x = new FirstChimney();
        due("rests of " + name, want.length, x.rests(both, loses, gains, NONE));
        for (int i = 0; i < want.length; i++) {
            due("rest " + i + " of " + name, want[i], x.rests(both, loses, gains, i));
        }
        throwing("beyond the rests of " + name, both, loses, gains, want.length);
    }

    private static void throwing(String name, int both, int loses, int gains, int what) {
        boolean thrown = false;
        try {
            new FirstChimney().rests(both, loses, gains, what);
        } catch (NoSuchElementException e) {
            thrown = e.getClass() == NoSuchElementException.class;
        }
        due("rests throws, " + name, true, thrown);
    }

    private static void drawing() {
        FirstChimney x = valley();
        due("seed 10000", NONE, x.mornings(10000, 1, 0));
        due("seed -1", NONE, x.mornings(-1, 1, 0));
        due("0 minutes", NONE, x.mornings(1, 0, 0));
        due("100 minutes", NONE, x.mornings(1, 100, 0));
        due("what 3", NONE, x.mornings(1, 1, 3));
        due("what -1", NONE, x.mornings(1, 1, -1));
        x.give(PIE, BEA);
        x.minute();
        int[] ahead = new int[14];
        for (int what = 0; what < 14; what++) {
            ahead[what] = x.count(what);
        }
        x.mornings(77, 99, 0);
        for (int what = 0; what < 14; what++) {
            due("as ahead, count " + what, ahead[what], x.count(what));
        }
        due("as ahead, pie", BEA, x.thing(PIE, 1));
        due("as ahead, HEARD", 3, x.heard(ANN));
        // By seed 0 the first draws' numbers are 0, 21468, 9988, 22117: person 0, place 0, deed 3, person 2 of 5.
        FirstChimney y = of("place p;person a plain in p wakes 0;person b plain in p wakes 0;person c plain in p wakes 0;"
                + "person d plain in p wakes 0;person e plain in p wakes 0;");
        due("seed 0, a vow of a and c", 1, y.mornings(0, 1, 0));
        due("seed 0, HEARD", 25, y.mornings(0, 1, 2));
        due("seed 0, nothing strays", 0, y.mornings(0, 1, 1));
        FirstChimney mute = of("place p;person a mute in p wakes 0;person b plain in p wakes 0;person c plain in p wakes 0;"
                + "person d plain in p wakes 0;person e plain in p wakes 1;");
        due("seed 0, a is mute", 0, mute.mornings(0, 1, 0));
        due("seed 0, e sleeps", 4 * 4 + 1, mute.mornings(0, 1, 2));
        // By seed 1 the draws are 16838, 5758, 10113, 17515: of two, person 0, of one, place 0, deed 3, person 1.
        FirstChimney two = of("place p;person a plain in p wakes 0;person b plain in p wakes 0;");
        due("seed 1, a vow", 1, two.mornings(1, 1, 0));
        drawnGift();
        due("nobody", 0, new FirstChimney().mornings(9999, 99, 0));
    }

    /** Looks for a seed whose first draws are a gift from one to another, and for one whose are a walk. */
    private static void drawnGift() {
        int gifts = 0;
        int walks = 0;
        for (int seed = 0; seed < 200; seed++) {
            FirstChimney x = of("place p;place q;path p q;person a plain in p wakes 0;person b plain in p wakes 0;thing t worth 1 of a;thing u worth 1 of b;");
            long g = seed;
            int[] draws = new int[4];
            int[] below = {2, 2, 5, 2};
            for (int i = 0; i < 4; i++) {
                g = (g * 1103515245L + 12345L) % (1L << 31);
                draws[i] = (int) (g / 65536 % below[i]);
            }
            boolean gift = draws[2] == 2 && draws[3] != draws[0];
            boolean vow = draws[2] == 3 && draws[3] != draws[0];
            boolean walk = draws[2] <= 1 && draws[1] == 1;
            gifts += gift ? 1 : 0;
            walks += walk ? 1 : 0;
            due("kindnesses by " + seed, gift || vow ? 1 : 0, x.mornings(seed, 1, 0));
            due("strays by " + seed, gift ? 1 << draws[3] : 0, x.mornings(seed, 1, 1));
            due("HEARD by " + seed, walk ? 2 : 4, x.mornings(seed, 1, 2));
        }
        due("there was a gift", true, gifts > 0);
        due("there was a walk", true, walks > 0);
    }

    private static void marks() {
        FirstChimney x = valley();
        due("nothing on it", false, x.mark(0, true));
        due("none such", false, x.mark(4, false));
        due("none such, back", false, x.mark(4, true));
        due("none such -1", false, x.mark(-1, false));
        x.see(INN, 0, true);
        x.walk(ANN, FIELD);
        morning(x, "minute;");
        due("laid", true, x.mark(0, false));
        due("laid 3", true, x.mark(3, false));
        due("can still be undone", 1, x.count(12));
        x.minute();
        x.give(PIE, CY);
        x.see(FIELD, 1, false);
        morning(x, "minute; minute;");
        due("gone back", true, x.mark(0, true));
        due("minute", 0, x.count(6));
        due("ann", FIELD, x.person(ANN, 2));
        due("ann has ACTED", 0, x.person(ANN, 4));
        due("pie", ANN, x.thing(PIE, 1));
        due("HEARD", 1, x.heard(ANN));
        due("SEEN", 1, x.count(11));
        due("what is SEEN", 2, x.who());
        due("the MORNING is not on it", 2, x.count(10));
        due("nothing can be undone", 0, x.count(12));
        due("undo", false, x.undo());
        x.minute();
        x.mark(3, false);
        due("still there", true, x.mark(0, true));
        due("minute 0", 0, x.count(6));
        due("laid anew", true, x.mark(3, true));
        due("minute 1", 1, x.count(6));
        due("others are empty", false, x.mark(1, true));
    }

    private static void counting() {
        FirstChimney x = valley();
        due("count 14", NONE, x.count(14));
        due("count -1", NONE, x.count(-1));
        x.vow(ANN, BEA);
        x.see(INN, 0, true);
        minutes(x, 3);
        morning(x, "minute; minute; walk ann inn;");
        feed(x, "tea?");
        int[] counts = {5, 4, 5, 3, 6, 0, 3, 31, 1, 0, 3, 1, 4, 4};
        for (int what = 0; what < counts.length; what++) {
            due("count " + what, counts[what], x.count(what));
        }
    }

    public static void main(String[] args) {
        aNewObject();
        feeding();
        lands();
        landFaults();
        lawFaults();
        mornings40();
        placesPersonsThings();
        walking();
        giving();
        vowing();
        theLaw();
        theMinute();
        undoing();
        judging();
        soonMeetAll();
        touring();
        inTime();
        couldWouldWhen();
        seesHeardNewsAlone();
        theWays();
        seenWhoAsk();
        hasRichSleeps();
        chances();
        resting();
        drawing();
        marks();
        counting();
        System.out.println(wrong == 0 ? "all promises hold" : wrong + " answers are not as due");
        if (wrong != 0) {
            System.exit(1);
        }
    }
}
