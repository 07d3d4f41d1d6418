/** The edges that the document names for a new object, the TAPE, the LAND, E and the MORNING: promises 1 to 4. */
public final class TapeEdgesTest {
    private static final int NONE = Edges.NONE;
    private static final String[] WORDS = ("place path person in wakes thing worth of smoke binds minute walk give vow"
            + " plain bench slow mute not and or").split(" ");
    private static final long EIGHT_BLANKS = 0x2020202020202020L;
    private static final String SEVEN = "place a;place b;place c;place d;place e;place f;place g;";
    private static final String TEN = "path a b;path a c;path a d;path a e;path a f;path a g;path b c;path b d;path b e;path b f;";

    private static void of(int promise, String words) {
        Edges.of(promise, words);
    }

    private static void due(String what, long want, long got) {
        Edges.due(what, want, got);
    }

    private static void due(String what, boolean want, boolean got) {
        Edges.due(what, want, got);
    }

    /** A LAND with a FAULT at the sign ^, which is left out: it is told, and all stays. */
    private static void landFault(int kind, String text) {
        int fault = kind + 16 * text.indexOf('^');
        String plain = text.replace("^", "");
        Edges.leaves("land of " + plain, "", x -> due("land of " + plain, fault, Edges.land(x, plain)));
    }

    /** A MORNING of FULL, likewise. */
    private static void morningFault(int kind, String text) {
        int fault = kind + 16 * text.indexOf('^');
        String plain = text.replace("^", "");
        Edges.leaves("morning of " + plain, "", x -> due("morning of " + plain, fault, Edges.morning(x, plain)));
    }

    private static void nothing(String name, FirstChimney x) {
        int[] counts = {0, 0, 0, 0, 30, 0, 0, 0, 0, 0, 0, 0, 0, 0};
        for (int what = 0; what < counts.length; what++) {
            due(name + " count " + what, counts[what], x.count(what));
        }
        for (int what = 0; what <= 5; what++) {
            due(name + " place, person, thing " + what, -3, x.place(0, what) + x.person(0, what) + x.thing(0, what));
        }
        due(name + " walk", false, x.walk(0, 0));
        due(name + " give, vow", 2 * NONE, x.give(0, 0) + x.vow(0, 1));
        due(name + " undo", false, x.undo());
        due(name + " judged 0, 1", 2 * NONE, x.judged(0) + x.judged(1));
        due(name + " judged 2", 0, x.judged(2));
        due(name + " judged 3", -2, x.judged(3));
        due(name + " soon, meet, tour", 3 * NONE, x.soon(0, 0) + x.meet(0, 1) + x.tour(0));
        due(name + " all", 2 * NONE, x.all(0) + x.all(1));
        due(name + " intime", false, x.intime(0, 0));
        due(name + " back", 0, x.back());
        due(name + " could, when", 2 * NONE, x.could(0) + x.when(0, 0));
        due(name + " would", false, x.would(0, 0));
        due(name + " vows, sees, heard", 4 * NONE, x.vows(0, false) + x.vows(0, true) + x.sees(0) + x.heard(0));
        due(name + " news", 0, x.news());
        due(name + " alone, cuts, who", 0, x.alone() + x.cuts() + x.who());
        due(name + " reach, far, links", 3 * NONE, x.reach(0) + x.far(0, 0) + x.links(0));
        due(name + " hub", NONE, x.hub());
        due(name + " see", false, x.see(0, 0, true));
        due(name + " ask", NONE, x.ask());
        due(name + " wide", NONE, x.wide());
        due(name + " has", 2 * NONE, x.has(0, false) + x.has(0, true));
        due(name + " sleeps", NONE, x.sleeps(0));
        due(name + " rich", 2 * NONE, x.rich(false) + x.rich(true));
        due(name + " chance", 117649, x.chance(6, 3));
        due(name + " rests", 1, x.rests(5, 2, 3, NONE));
        for (int what = 0; what <= 2; what++) {
            due(name + " mornings " + what, 0, x.mornings(9999, 99, what));
        }
        for (int mark = 0; mark <= 3; mark++) {
            due(name + " mark " + mark, false, x.mark(mark, true));
        }
        due(name + " a MARK can be laid", true, x.mark(0, false));
        for (int minute = 1; minute <= 30; minute++) {
            due(name + " minute " + minute, minute == 30, x.minute());
        }
        due(name + " morning", 1, x.count(5));
        due(name + " undo of it", true, x.undo());
        due(name + " minute 29", 29, x.count(6));
        due(name + " gone back to", true, x.mark(0, true));
        due(name + " minute 0", 0, x.count(6));
    }

    private static void newObjects() {
        of(1, "`FirstChimney()`: Nothing.");
        nothing("new", new FirstChimney());
        of(1, "At first: nothing.");
        FirstChimney first = Edges.busy();
        nothing("new beside another", new FirstChimney());
        due("the other one", 7, first.count(0));
        FirstChimney x = new FirstChimney();
        due("a MORNING of names", 2 + 16 * 5, Edges.morning(x, "walk h a;"));
        due("no lines", 0, x.count(10));
        due("a MORNING of a minute", 0, Edges.morning(x, "minute;"));
        due("judged of a minute", NONE, x.judged(0));
        due("lines", 1, x.count(10));
        of(1, "The constants: `NONE = -1`: None.");
        due("NONE", -1, FirstChimney.NONE);
        of(1, "An object is used for at most 512 calls after it has been made");
        FirstChimney long1 = new FirstChimney();
        for (int call = 1; call <= 511; call++) {
            due("call " + call, call % 30 == 0, long1.minute());
        }
        due("call 512", 17 * 30 + 1, 17 * 30 + long1.count(6));
        FirstChimney long2 = new FirstChimney();
        for (int call = 1; call <= 510; call++) {
            due("call " + call, call <= 20 ? call * 24 : Math.min(1000, call * 24), long2.feed(EIGHT_BLANKS, EIGHT_BLANKS, EIGHT_BLANKS));
        }
        due("call 511", 0, long2.land());
        due("call 512", 0, long2.count(13));
    }

    private static void feeding() {
        of(2, "Up to 24 signs come behind the TAPE");
        FirstChimney x = new FirstChimney();
        due("no sign", 0, x.feed(0, 0, 0));
        due("one sign", 1, x.feed(0, 0, 'a'));
        due("24 signs", 25, x.feed(EIGHT_BLANKS, EIGHT_BLANKS, EIGHT_BLANKS));
        due("23 signs", 48, x.feed(EIGHT_BLANKS, EIGHT_BLANKS, EIGHT_BLANKS & ~0xFFL));
        of(2, "the bytes of a, b, c, of each the highest first");
        for (int at = 0; at < 24; at++) {
            long[] parts = {EIGHT_BLANKS, EIGHT_BLANKS, EIGHT_BLANKS};
            parts[at / 8] ^= (long) (' ' ^ '!') << 56 - 8 * (at % 8);
            FirstChimney y = new FirstChimney();
            y.feed(parts[0], parts[1], parts[2]);
            due("sign " + at, 1 + 16 * at, y.land());
        }
        of(2, "others than 10 and 32 .. 126, and what is beyond 1,000, are left out");
        for (int sign = 0; sign <= 255; sign++) {
            FirstChimney y = new FirstChimney();
            int taken = sign == 10 || sign >= 32 && sign <= 126 ? 1 : 0;
            due("sign " + sign + " first", taken, y.feed((long) sign << 56, 0, 0));
            due("sign " + sign + " between", 2 * taken, y.feed(0, (long) sign << 24, 0));
            due("sign " + sign + " last", 3 * taken, y.feed(0, 0, sign));
            due("sign " + sign + " on the TAPE", 3 * taken, y.count(13));
        }
        FirstChimney gaps = new FirstChimney();
        due("signs left out of a word", 8, gaps.feed(0x70006C7F61FF6380L, 0x6509200061010B3BL, Long.MIN_VALUE));
        due("they leave no gap", 0, gaps.land());
        due("one PLACE", 1, gaps.count(0));
        for (int ahead = 975; ahead <= 1000; ahead++) {
            FirstChimney y = new FirstChimney();
            due(ahead + " signs", ahead, Edges.feed(y, Edges.repeated(" ", ahead)));
            due(ahead + " and 24 more", Math.min(1000, ahead + 24), Edges.feed(y, "!" + Edges.repeated(" ", 23)));
            due(ahead + " on the TAPE", Math.min(1000, ahead + 24), y.count(13));
            due(ahead + ": what came first stays", ahead < 1000 ? 1 + 16 * ahead : 0, y.land());
        }
        FirstChimney last = new FirstChimney();
        Edges.feed(last, Edges.repeated(" ", 999));
        due("those left out take no room", 1000, last.feed(0x7F00FF091F0B8001L, 0, '!'));
        due("full, nothing more", 1000, last.feed(0, 0, 0));
        due("full, one more", 1000, last.feed('a', 0, 0));
        due("the 1000th sign", 1 + 16 * 999, last.land());
        due("it begins anew", 1, last.feed('a', 0, 0));
        Edges.leaves("feed of nothing", y -> y.feed(0, -1L, Long.MIN_VALUE));
        of(2, "how many there are");
        due("as count tells", 2, last.feed('b', 0, 0) + 2 - last.count(13));
    }

    private static void taken() {
        of(3, "what reads it takes it: it is empty then");
        FirstChimney x = new FirstChimney();
        Edges.feed(x, "place a;");
        due("land", 0, x.land());
        due("empty by land", 0, x.count(13));
        due("read again it is an empty LAND", 0, x.land());
        due("with no PLACES", 0, x.count(0));
        Edges.feed(x, "place ;");
        due("a FAULT", 1 + 16 * 6, x.land());
        due("empty by a FAULT", 0, x.count(13));
        of(4, "what reads it takes it: it is empty then");
        Edges.feed(x, "minute;");
        due("morning", 0, x.morning());
        due("empty by morning", 0, x.count(13));
        due("one line", 1, x.count(10));
        Edges.feed(x, "place a;");
        due("a FAULT", 1, x.morning());
        due("empty by its FAULT", 0, x.count(13));
        due("the line stays", 1, x.count(10));
        due("read again it is an empty MORNING", 0, x.morning());
        due("with no lines", 0, x.count(10));
    }

    private static void tokens() {
        of(3, "each as long as can be");
        landFault(1, "^placea;");
        landFault(1, "binds ^notclock;");
        landFault(1, "binds 1^andnot 1;");
        due("a NUMBER", true, Edges.told("place a;" + Edges.people(2, "plain", 0) + "thing t worth 1 of h;binds 1111=1111;").would(0, 1));
        of(3, "blanks (10, 32) between where one likes");
        due("none", 2, Edges.told("place a;place b;").count(0));
        due("many", 2, Edges.told("\n \n place\n\n a \n;place  b\n ;  \n").count(0));
        due("none in E", 1, Edges.told("place a;" + Edges.people(2, "plain", 0) + "thing t worth 1 of h;binds(1)and(not(0)*1<2);").give(0, 1));
        landFault(1, "^pl ace a;");
        landFault(1, "place a ^b;");
        landFault(4, "smoke ^0 1;");
        landFault(1, "smoke 6 ^1;");
        of(3, "WORDS (letters a .. z, 8 at most)");
        due("8 letters", 3, Edges.told("place abcdefgh;place zyxwvuts;place z;").count(0));
        due("told apart by the eighth", 2, Edges.told("place aaaaaaaa;place aaaaaaab;").count(0));
        due("told apart by the length", 3, Edges.told("place aaaaaaa;place aaaaaaaa;place aaaaaa;").count(0));
        due("told apart by the order of letters", 7, Edges.told("place a;place aa;place ab;place ba;place b;place bb;place aab;").count(0));
        due("told apart by the first letter", 3, Edges.told("place abbbbbbb;place bbbbbbbb;place zbbbbbbb;").count(0));
        landFault(3, "place aaaaaaaa;place ^aaaaaaaa;");
        landFault(1, "place ^abcdefghi;");
        landFault(1, "place ^" + Edges.repeated("a", 900) + ";");
        landFault(1, "^placeplac a;");
        landFault(1, "place ^`;");
        landFault(1, "place ^{;");
        landFault(1, "place a^`;");
        landFault(1, "place a^{;");
        landFault(1, "place ^A;");
        landFault(1, "place ^Z;");
        of(3, "NUMBERS (1 to 4 digits; a letter may stand right behind)");
        due("1 digit", 9, Edges.told("smoke 9;").count(4));
        due("4 digits", 60, Edges.told("smoke 0060;").count(4));
        landFault(1, "smoke ^00060;");
        landFault(1, "smoke ^00001;");
        landFault(1, "smoke ^" + Edges.repeated("0", 900) + "1;");
        landFault(1, "smoke ^/;");
        landFault(1, "smoke ^:;");
        landFault(1, "smoke 1^/;");
        landFault(1, "smoke 1^:;");
        due("a letter right behind", 5, Edges.told("place a;person h plain in a wakes 0;thing t worth 5of h;").thing(0, 0));
        due("and of E", 1, Edges.told("place a;" + Edges.people(2, "plain", 0) + "thing t worth 5of h;binds 0or 1and 1;").give(0, 1));
        landFault(1, "smoke 60^a;");
        landFault(4, "smoke ^61a;");
        of(3, "All else (a longer WORD or NUMBER, too, at its first sign) is none.");
        String signs = "<=+-*";
        for (char sign = '!'; sign <= '~'; sign++) {
            boolean joins = signs.indexOf(sign) >= 0;
            String text = "place a;binds 10 " + sign + " 1;";
            FirstChimney x = new FirstChimney();
            boolean ends = sign == ';';
            due(text, joins ? 0 : ends ? 1 + 16 * 19 : 1 + 16 * 17, Edges.land(x, text));
        }
        for (char sign = '!'; sign <= '~'; sign++) {
            String text = "place a;binds (1" + sign + " ;";
            FirstChimney x = new FirstChimney();
            boolean joins = signs.indexOf(sign) >= 0;
            boolean digit = sign >= '0' && sign <= '9';
            int at = sign == ')' ? -1 : joins || digit ? 18 : 16;
            due(text, at < 0 ? 0 : 1 + 16 * at, Edges.land(x, text));
        }
    }

    private static void landLines() {
        of(3, "any number of place NAME ;");
        for (String text : new String[] {"", " ", "\n"}) {
            FirstChimney x = Edges.busy();
            due("land of nothing", 0, Edges.land(x, text));
            nothing("a LAND of nothing", x);
        }
        due("places and paths mixed", 1, Edges.told("smoke 2;place a;binds 1;place b;path b a;place c;").count(1));
        of(3, "place: 7 at most, numbered as told.");
        due("7", 7, Edges.told(SEVEN).count(0));
        landFault(5, SEVEN + "^place h;");
        landFault(5, SEVEN + "^place a;");
        landFault(5, SEVEN + "^place");
        landFault(5, SEVEN + "^place;");
        FirstChimney row = Edges.told(SEVEN + "path a g;");
        due("the first is 0", 1 << 6, row.place(0, 0));
        due("the seventh is 6", 1, row.place(6, 0));
        of(3, "path: 10 at most, between two PLACES told, not the same, each two have one at most.");
        due("10", 10, Edges.told(SEVEN + TEN).count(1));
        landFault(5, SEVEN + TEN + "^path c d;");
        landFault(5, SEVEN + TEN + "^path a b;");
        landFault(5, SEVEN + TEN + "^path");
        landFault(2, "path ^a b;");
        landFault(2, "place a;path ^b a;");
        landFault(2, "place a;path a ^b;place b;");
        landFault(2, "place a;person h plain in a wakes 0;path ^h a;");
        landFault(2, "place a;person h plain in a wakes 0;path a ^h;");
        landFault(3, "place a;path a ^a;");
        landFault(3, "place a;place b;path a b;path a ^b;");
        landFault(3, "place a;place b;path a b;path b ^a;");
        landFault(3, "place a;place b;place c;path a b;path a c;path c ^a;");
        of(3, "person: 5 at most, numbered as told; KIND: plain, bench, slow, mute; in a PLACE told (their HOUSE); wakes 0 to 30.");
        due("5", 5, Edges.told("place a;" + Edges.people(5, "slow", 0)).count(2));
        landFault(5, "place a;" + Edges.people(5, "plain", 0) + "^person m plain in a wakes 0;");
        landFault(5, "place a;" + Edges.people(5, "plain", 0) + "^person h;");
        landFault(5, "place a;" + Edges.people(5, "plain", 0) + "^person");
        FirstChimney kinds = Edges.told("place a;place b;person h plain in b wakes 0;person i bench in a wakes 1;person j slow in a wakes 29;person k mute in b wakes 30;");
        for (int person = 0; person < 4; person++) {
            due("KIND of " + person, person, kinds.person(person, 0));
            due("HOUSE of " + person, person % 3 == 0 ? 1 : 0, kinds.person(person, 1));
            due("wakes of " + person, new int[] {0, 1, 29, 30}[person], kinds.sleeps(person));
        }
        for (String word : ("plai plainn benchs slo mutes place in not h").split(" ")) {
            landFault(1, "place a;person h ^" + word + " in a wakes 0;");
        }
        landFault(2, "person h plain in ^a wakes 0;");
        landFault(2, "place a;person h plain in ^h wakes 0;");
        landFault(2, "place a;person h plain in ^b wakes 0;place b;");
        landFault(4, "place a;person h plain in a wakes ^31;");
        landFault(4, "place a;person h plain in a wakes ^0031;");
        landFault(4, "place a;person h plain in a wakes ^9999;");
        landFault(1, "place a;person h plain in a wakes ^- 1;");
        landFault(1, "place a;person h plain in a wakes ^;");
        thingLines();
        smokeLines();
    }

    private static void thingLines() {
        String one = "place a;person h plain in a wakes 0;";
        String six = "thing m worth 0 of h;thing n worth 1 of h;thing o worth 29 of h;thing p worth 30 of h;thing q worth 0 of h;thing r worth 30 of h;";
        of(3, "thing: 6 at most, numbered as told; worth 0 to 30; of a PERSON told.");
        FirstChimney things = Edges.told(one + six);
        due("6", 6, things.count(3));
        for (int thing = 0; thing < 6; thing++) {
            due("worth of " + thing, new int[] {0, 1, 29, 30, 0, 30}[thing], things.thing(thing, 0));
        }
        landFault(5, one + six + "^thing s worth 0 of h;");
        landFault(5, one + six + "^thing m;");
        landFault(5, one + six + "^thing");
        landFault(4, one + "thing t worth ^31 of h;");
        landFault(4, one + "thing t worth ^9999 of h;");
        landFault(1, one + "thing t worth ^- 1 of h;");
        landFault(1, one + "thing t worth ^10000 of h;");
        landFault(2, one + "thing t worth 1 of ^a;");
        landFault(2, one + "thing t worth 1 of ^t;");
        landFault(2, one + "thing t worth 1 of ^i;person i plain in a wakes 0;");
        landFault(2, "thing t worth 1 of ^h;");
    }

    private static void smokeLines() {
        of(3, "smoke 1 to 60 (30).");
        due("1", 1, Edges.told("smoke 1;").count(4));
        due("60", 60, Edges.told("smoke 60;").count(4));
        due("untold", 30, Edges.told("place a;").count(4));
        landFault(4, "smoke ^0;");
        landFault(4, "smoke ^0000;");
        landFault(4, "smoke ^61;");
        landFault(4, "smoke ^9999;");
        landFault(1, "smoke ^- 1;");
        landFault(1, "smoke ^;");
        of(3, "smoke, binds: once each.");
        landFault(3, "smoke 1;^smoke 1;");
        landFault(3, "smoke 30;place a;^smoke");
        landFault(3, "binds 0;^binds 0;");
        landFault(3, "binds 0;place a;^binds");
        due("one of each", 7, Edges.told("binds 0;smoke 7;").count(4));
        FirstChimney x = Edges.told("smoke 7;binds 1;");
        due("once in each LAND", 0, Edges.land(x, "smoke 8;binds 0;"));
        due("the later one", 8, x.count(4));
        due("untold again", 0, Edges.land(x, "place a;"));
        due("30 again", 30, x.count(4));
    }

    private static void names() {
        of(3, "A NAME is another WORD than place, path, person, in, wakes, thing, worth, of, smoke, binds, minute, walk, give, vow, the KINDS, not, and, or");
        for (String word : WORDS) {
            landFault(1, "place ^" + word + ";");
            landFault(1, "place a;person ^" + word + " plain in a wakes 0;");
            landFault(1, "place a;person h plain in ^" + word + " wakes 0;");
            landFault(1, "place a;person h plain in a wakes 0;thing ^" + word + " worth 0 of h;");
            landFault(1, "place a;person h plain in a wakes 0;thing t worth 0 of ^" + word + ";");
            landFault(1, "path ^" + word + " a;");
            landFault(1, "place a;path a ^" + word + ";");
            due("a longer one than " + word, 1, Edges.told("place " + (word + "x").substring(0, Math.min(8, word.length() + 1)) + ";").count(0));
            due("a part of " + word, 1, Edges.told("place " + word.substring(1) + "q;").count(0));
        }
        for (String word : "clock price crowd judge land tea waits an no pathe".split(" ")) {
            due("the NAME " + word, 1, Edges.told("place " + word + ";").count(0));
        }
        of(3, "no two (PLACES, PERSONS, THINGS) are alike.");
        String told = "place a;place b;person h plain in a wakes 0;thing t worth 0 of h;";
        for (String name : "a b h t".split(" ")) {
            landFault(3, told + "place ^" + name + ";");
            landFault(3, told + "person ^" + name + " plain in a wakes 0;");
            landFault(3, told + "thing ^" + name + " worth 0 of h;");
        }
    }

    private static void laws() {
        of(3, "no PART lies within 5 of not and ( ).");
        for (int mix = 0; mix < 32; mix++) {
            StringBuilder opened = new StringBuilder();
            StringBuilder closed = new StringBuilder();
            for (int level = 0; level < 5; level++) {
                boolean not = (mix >> level & 1) == 1;
                opened.append(not ? "not " : "( ");
                closed.append(not ? "" : ")");
            }
            String five = opened.toString();
            for (String part : "1 9999 clock price crowd judge not (".split(" ")) {
                landFault(5, "binds " + five + "^" + part);
            }
            for (String part : "; ) and or < = + - * in tea 12345 abcdefghi ! place".split(" ")) {
                landFault(1, "binds " + five + "^" + part);
            }
            landFault(1, "binds " + five + "^");
            String four = five.substring(five.indexOf(' ') + 1);
            String fourClosed = (mix & 1) == 1 ? closed.toString() : closed.substring(1);
            int nots = Integer.bitCount(mix >> 1);
            law(nots % 2 == 0 ? 1 : 0, four + "7 " + fourClosed);
            law(nots % 2 == 0 ? 1 : 0, four + "7 " + fourClosed + " and " + four + "7 " + fourClosed);
            landFault(5, "binds " + four + "7 " + fourClosed + " and " + five + "^7");
        }
        of(3, "E: TEST { and TEST or or TEST }, from the left");
        law(0, "1 or 1 and 0");
        law(1, "0 and 0 or 1");
        law(1, "0 and 1 or 1");
        law(0, "0 or 1 and 0 or 0");
        law(1, "1 or (1 and 0)");
        of(3, "TEST: SUM, or SUM < SUM, or SUM = SUM");
        landFault(1, "binds 1 < 2 ^< 3;");
        landFault(1, "binds 1 < 2 ^= 3;");
        landFault(1, "binds 1 = 2 ^< 3;");
        landFault(1, "binds 1 = 2 ^= 3;");
        landFault(1, "binds 1 = 2 + 3 * 4 ^= 3;");
        landFault(1, "binds (1 = 2 ^= 3);");
        landFault(1, "binds 1 and 1 < 2 ^< 3;");
        law(1, "(1 < 2) < 3 and 1 < (2 < 3) + 1");
        law(1, "1 < 2 and 2 < 3");
        law(1, "1 < 2");
        law(0, "2 < 2");
        law(0, "2 < 1");
        law(1, "2 = 2");
        law(0, "2 = 1");
        of(3, "SUM: PRODUCT { + or - PRODUCT }; PRODUCT: PART { * PART }");
        law(1, "10 - 3 - 2 = 5");
        law(1, "10 - 3 + 2 = 9");
        law(1, "2 + 3 * 4 = 14");
        law(1, "2 * 3 + 4 = 10");
        law(1, "not 0 + 1 = 2");
        law(1, "not 1 * 5 = 0");
        landFault(1, "binds ^+ 1;");
        landFault(1, "binds ^- 1;");
        landFault(1, "binds 1 - ^- 1;");
        landFault(1, "binds ^* 1;");
        landFault(1, "binds 1 * ^;");
        landFault(1, "binds 1 < ^;");
        landFault(1, "binds 1 and ^;");
        landFault(1, "binds not ^;");
        landFault(1, "binds ^;");
        landFault(1, "binds^");
        landFault(1, "binds (^);");
        landFault(1, "binds (1^;");
        landFault(1, "binds 1^);");
        landFault(1, "binds 1 ^2;");
        landFault(1, "binds 1 ^not 2;");
        landFault(1, "binds 1 ^(2);");
        landFault(1, "binds (1) ^clock;");
        of(3, "Of not, and, or, < and = comes 1 or 0; what is not 0 is so; ints wrap.");
        law(1, "(5 and 6) + (0 or 7) + (1 < 9) + (3 = 3) + not 0 = 5");
        law(1, "(5 and 0) + (0 or 0) + (9 < 1) + (3 = 4) + not 7 = 0");
        law(1, "0 - 1");
        law(1, "0 - 1 and 0 - 2");
        law(1, "not (0 - 1) = 0");
        law(0, "4096 * 4096 * 256");
        law(1, "4096 * 4096 * 256 = 0");
        law(1, "2048 * 1024 * 1024 < 0");
        law(1, "0 < 2048 * 1024 * 1024 - 1");
        law(1, "2048 * 1024 * 1024 < 1");
        law(0, "1 < 2048 * 1024 * 1024");
        law(1, "2048 * 1024 * 1024 - 1 + 1 < 0");
        of(3, "PART: a NUMBER, a fact, not PART, ( E )");
        law(0, "0");
        law(0, "0000");
        law(1, "9999");
        law(1, "0009 = 9");
        law(1, "9999 + 1 = 5000 * 2");
        landFault(1, "binds ^10000;");
        landFault(1, "binds ^tea;");
        landFault(1, "binds ^clocks;");
        landFault(1, "binds ^a;");
        longLaws();
        facts();
    }

    /** As long as the TAPE lets an E be, and with as much as can be that waits for its right side. */
    private static void longLaws() {
        longLaw(1, Edges.repeated("1+", 439) + "1=440");
        longLaw(0, Edges.repeated("1+", 439) + "1=439");
        longLaw(1, Edges.repeated("1-", 439) + "1=0-438");
        longLaw(1, Edges.repeated("1*", 439) + "1=1");
        longLaw(0, Edges.repeated("1*", 439) + "0");
        longLaw(1, Edges.repeated("1and ", 170) + "1");
        longLaw(0, Edges.repeated("1and ", 170) + "0");
        longLaw(1, Edges.repeated("0or ", 210) + "1");
        longLaw(1, Edges.repeated("((((1))))*", 80) + "((((1))))");
        longLaw(1, Edges.repeated("1=1and ", 120) + "1=1");
        String level = "0 or 0 = 1 - 1 * ";
        // The innermost is 0 or 0 = 1 - 1, which is 1, and so on outwards.
        law(1, Edges.repeated(level + "(", 4) + level + "1" + Edges.repeated(")", 4));
        // With 0 in its place each level is 0 or 0 = 1 - 0, which is not so.
        law(0, Edges.repeated(level + "(", 4) + level + "0" + Edges.repeated(")", 4));
    }

    /** Blanks behind it make the TAPE full. */
    private static void longLaw(int want, String text) {
        String all = "place a;" + Edges.people(2, "plain", 0) + "thing t worth 7 of h;binds " + text + ";";
        due(text + " fits", true, all.length() <= 1000);
        FirstChimney x = Edges.told(all + Edges.repeated(" ", 1000 - all.length()));
        due("binds " + text, want, x.give(0, 1));
    }

    private static void law(int want, String text) {
        FirstChimney x = Edges.told("place a;" + Edges.people(2, "plain", 0) + "thing t worth 7 of h;binds " + text + ";");
        due("binds " + text + " would", want, x.would(0, 1) ? 1 : 0);
        due("binds " + text, want, x.give(0, 1));
    }

    private static void fact(String text, int people, String kind, int wakes, int minutes, boolean want) {
        FirstChimney x = Edges.told("place a;person x plain in a wakes 0;person y bench in a wakes 0;"
                + Edges.people(people, kind, wakes) + "thing t worth 30 of x;thing u worth 0 of x;smoke 60;binds " + text + ";");
        Edges.minutes(x, minutes);
        due(people + " " + kind + " from " + wakes + " on in minute " + minutes + ": " + text, want, x.would(0, 1));
        due(people + " " + kind + " from " + wakes + " on in minute " + minutes + ", given: " + text, want ? 1 : 0, x.give(0, 1));
    }

    private static void facts() {
        of(3, "Facts: clock (the minute), price (the THING's worth; 0 for a vow)");
        fact("clock = 0", 0, "plain", 0, 0, true);
        fact("clock = 1", 0, "plain", 0, 0, false);
        fact("clock = 59", 0, "plain", 0, 59, true);
        fact("clock = 0", 0, "plain", 0, 60, true);
        fact("price = 30", 0, "plain", 0, 0, true);
        FirstChimney x = Edges.told("place a;" + Edges.people(3, "plain", 0) + "thing t worth 30 of h;thing u worth 0 of h;binds price = 0;");
        due("worth 30", 0, x.give(0, 1));
        due("worth 0", true, x.would(1, 1));
        due("a vow", 1, x.vow(1, 2));
        of(3, "crowd (how many others are AWAKE at that PLACE, those two left out), judge (how many of these are of the Bench).");
        fact("crowd = 0", 0, "plain", 0, 0, true);
        fact("crowd = 3", 3, "plain", 0, 0, true);
        fact("crowd = 0", 3, "plain", 30, 29, true);
        fact("crowd = 3", 3, "plain", 30, 30, true);
        fact("judge = 0", 3, "plain", 0, 0, true);
        fact("judge = 0", 3, "slow", 0, 0, true);
        fact("judge = 0", 3, "mute", 0, 0, true);
        fact("judge = 0", 0, "bench", 0, 0, true);
        fact("judge = 3", 3, "bench", 0, 0, true);
        fact("judge = 0", 3, "bench", 1, 0, true);
        fact("judge = 3", 3, "bench", 1, 1, true);
        FirstChimney apart = Edges.told("place a;place b;person h bench in a wakes 0;person i bench in a wakes 0;person j bench in b wakes 0;"
                + "person k bench in a wakes 0;binds crowd = 1 and judge = 1;");
        due("one at another PLACE is not of the crowd", 1, apart.vow(0, 1));
        for (int left = 0; left < 3; left++) {
            FirstChimney third = Edges.told("place a;" + Edges.people(3, "bench", 0) + "binds judge = 1 and crowd = 1;");
            due("each may be the third one", 1, third.vow((left + 1) % 3, (left + 2) % 3));
        }
        of(3, "Without binds: 0.");
        FirstChimney none = Edges.told("place a;" + Edges.people(4, "bench", 0) + "thing t worth 30 of h;");
        due("would", false, none.would(0, 1));
        due("when", NONE, none.when(0, 1));
        due("give", 0, none.give(0, 1));
        due("vow", 0, none.vow(2, 3));
        FirstChimney before = Edges.told("place a;" + Edges.people(2, "plain", 0) + "thing t worth 1 of h;binds 1;");
        due("told", true, before.would(0, 1));
        due("without", 0, Edges.land(before, "place a;" + Edges.people(2, "plain", 0) + "thing t worth 1 of h;"));
        due("a law is not left over", false, before.would(0, 1));
        due("without once more", 0, Edges.land(before, "place a;" + Edges.people(2, "plain", 0) + "thing t worth 1 of h;"));
        due("not from the one ahead of that, too", false, before.would(0, 1));
    }

    private static void faults() {
        of(3, "kind + 16 * the place (from 0) of a token, the end being one at the text's length");
        landFault(1, "^tea");
        landFault(1, "  ^tea");
        landFault(1, "place^");
        landFault(1, "place   \n^");
        landFault(1, "place a^");
        landFault(1, "place a \n ^");
        landFault(1, "smoke 3 ; place a;  place^");
        landFault(1, Edges.repeated(" ", 999) + "^!");
        landFault(1, "place" + Edges.repeated(" ", 995) + "^");
        landFault(1, Edges.repeated(" ", 995) + "place^");
        landFault(1, "^" + Edges.repeated("a", 1000));
        landFault(1, Edges.repeated(" ", 993) + "smoke 3^");
        landFault(1, Edges.repeated(" ", 991) + "binds (1)^");
        FirstChimney shorter = new FirstChimney();
        due("a longer text", 1 + 16 * 6, Edges.land(shorter, "smoke 34567;"));
        due("a shorter one ends at its length", 1 + 16 * 7, Edges.land(shorter, "smoke 3"));
        due("a longer WORD", 2 + 16 * 5, Edges.land(shorter, "path abcdefgh;"));
        due("a shorter one ends at its length, too", 1 + 16 * 6, Edges.land(shorter, "place "));
        due("and its NAME", 1 + 16 * 7, Edges.land(shorter, "place a"));
        due("999 blanks and a ;", 1 + 16 * 999, Edges.land(new FirstChimney(), Edges.repeated(" ", 999) + ";"));
        due("as long as the TAPE", 0, Edges.land(new FirstChimney(), Edges.repeated(" ", 992) + "place a;"));
        due("one sign longer", 1 + 16 * 1000, Edges.land(new FirstChimney(), Edges.repeated(" ", 993) + "place a;"));
        of(3, "of the first token from the left that is wrong the least");
        landFault(1, "place ^in ; tea 12345 place a ; path a a ;");
        landFault(4, "smoke ^0 ; ! ;");
        landFault(2, "path ^a a ; !");
        landFault(3, "place a;place ^a !");
        landFault(5, SEVEN + "^place ! ;");
        landFault(5, "binds not not not not not ^1 ! ;");
        landFault(1, "binds 1 ^! ;");
        landFault(1, "smoke ^99999;");
        landFault(1, "binds not not not not not ^99999;");
        of(3, "1 it is none, or can't stand there");
        for (String token : "; ( ) 1 tea minute walk give vow in of wakes worth not and or plain clock ! abcdefghi 12345".split(" ")) {
            landFault(1, "^" + token);
            landFault(1, "place a;^" + token);
        }
        for (String token : "( ) 1 tea place path plain ! abcdefghi 12345 + <".split(" ")) {
            landFault(1, "place a ^" + token);
            landFault(1, "place a;place b;path a b ^" + token);
            landFault(1, "place a;person h plain in a wakes 0 ^" + token);
            landFault(1, "place a;person h plain in a wakes 0;thing t worth 0 of h ^" + token);
            landFault(1, "smoke 5 ^" + token);
            landFault(1, "place ^" + (token.equals("tea") ? "1" : token));
            landFault(1, "place a;person h plain ^" + token);
            landFault(1, "place a;person h plain in a ^" + token);
            landFault(1, "place a;person h plain in a wakes 0;thing t ^" + token);
            landFault(1, "place a;person h plain in a wakes 0;thing t worth 0 ^" + token);
            landFault(1, "smoke ^" + (token.equals("1") ? "tea" : token));
        }
        landFault(1, "place^;");
        landFault(1, "path^;");
        landFault(1, "person^;");
        landFault(1, "thing^;");
        landFault(1, "place a;person h ^;");
        landFault(1, "place a;person h plain^;");
        landFault(1, "place a;person h plain in^;");
        landFault(1, "place a;person h plain in a^;");
        landFault(1, "place a;person h plain in a wakes^;");
        landFault(1, "place a;person h plain in a wakes 0;thing t^;");
        landFault(1, "place a;person h plain in a wakes 0;thing t worth^;");
        landFault(1, "place a;person h plain in a wakes 0;thing t worth 0^;");
        landFault(1, "place a;person h plain in a wakes 0;thing t worth 0 of^;");
        landFault(1, "place a;place b;path a^;");
        landFault(1, "place a;person h plain^");
        landFault(1, "place a;person h plain in^");
        landFault(1, "place a;person h plain in a^");
        landFault(1, "place a;person h plain in a wakes^");
        landFault(1, "place a;person h plain in a wakes 0^");
        landFault(1, "place a;person h plain in a wakes 0;thing^");
        landFault(1, "place a;person h plain in a wakes 0;thing t^");
        landFault(1, "place a;person h plain in a wakes 0;thing t worth^");
        landFault(1, "place a;person h plain in a wakes 0;thing t worth 0^");
        landFault(1, "place a;person h plain in a wakes 0;thing t worth 0 of^");
        landFault(1, "place a;person h plain in a wakes 0;thing t worth 0 of h^");
        landFault(1, "place a;place b;path^");
        landFault(1, "place a;place b;path a^");
        landFault(1, "place a;place b;path a b^");
        landFault(1, "smoke^");
        landFault(1, "smoke 3^");
        landFault(1, "binds 3^");
    }

    private static void landIsTheLand() {
        of(3, "0, or its FAULT (all stays then)");
        FirstChimney x = Edges.busy();
        due("a FAULT behind much that is right", 1 + 16 * 47, Edges.land(x, "place z;place y;path z y;smoke 3;binds 1;place !"));
        Edges.due("all stays", Edges.view(Edges.busy()), Edges.view(x));
        due("names of the old LAND", 0, Edges.morning(x, "walk h a;"));
        due("none of the other", 2 + 16 * 7, Edges.morning(x, "walk h z;"));
        FirstChimney ways = Edges.busy();
        due("a FAULT", 1 + 16 * 25, Edges.land(ways, "place a;place b;path a b;!"));
        due("FAR stays", 2, ways.far(6, 5));
        due("REACH stays", 127, ways.reach(6));
        due("binds stays", false, ways.would(1, 1));
        due("binds stays, too", true, ways.would(4, 0));
        leftOver();
        of(3, "Without a FAULT a LAND is the LAND from then on: morning 0, minute 0, all in their HOUSES, THINGS with those whose they are told to be, by right, too, no vows, each has HEARD of themselves, no MORNING, nothing SEEN, nothing can be undone, no MARK is there.");
        FirstChimney again = Edges.told("place a;place b;path a b;" + Edges.people(5, "bench", 0) + "thing t worth 1 of h;smoke 2;binds 1;");
        Edges.minutes(again, 3);
        due("a gift that BINDS", 1, again.give(0, 4));
        due("a vow that BINDS", 1, again.vow(1, 2));
        due("a walk", true, again.walk(3, 1));
        Edges.minutes(again, 2);
        due("a walk again", true, again.walk(3, 1));
        due("all have ACTED", 1, again.vow(0, 1) * again.vow(2, 4));
        due("SEEN", true, again.see(0, 0, true));
        for (int mark = 0; mark <= 3; mark++) {
            due("a MARK", true, again.mark(mark, false));
        }
        due("a MORNING", 0, Edges.morning(again, "minute;"));
        due("FULL is told", 0, Edges.land(again, Edges.FULL));
        Edges.due("as if by a new object", Edges.view(Edges.told(Edges.FULL)), Edges.view(again));
        due("undo", false, again.undo());
        for (int mark = 0; mark <= 3; mark++) {
            due("MARK " + mark, false, again.mark(mark, true));
        }
        due("SEEN", 0, again.count(11));
        due("WHO", 31, again.who());
        due("an old NAME", 2 + 16 * 5, Edges.morning(again, "give t h;"));
        due("a new NAME", 0, Edges.morning(again, "give r h;"));
        due("a lesser LAND", 0, Edges.land(again, "place z;"));
        due("no paths", NONE, again.wide());
        due("no path there", 0, again.place(0, 0));
        due("one PLACE", NONE, again.place(1, 0));
        due("nobody", 0, again.who());
        due("no lines", 0, again.count(10));
    }

    /** What a LAND or a FAULT told ahead is not in the next one nor in the one behind that. */
    private static void leftOver() {
        of(3, "Without a FAULT a LAND is the LAND from then on");
        String two = "place a;" + Edges.people(2, "plain", 0) + "thing t worth 1 of h;binds ";
        for (String law : "1;not 1;1 = 1;(1);((((1))));not not not 1 + 1;0 or 1 = 1 - 1 * (2;(((((;not not not not not;1 and (1 = 1 = 1;(1 +".split(";")) {
            for (int ahead = 1; ahead <= 3; ahead++) {
                FirstChimney x = new FirstChimney();
                for (int i = 0; i < ahead; i++) {
                    Edges.land(x, two + law + ";");
                }
                due("behind " + law, 0, Edges.land(x, two + "1;"));
                due("binds 1 behind " + law, true, x.would(0, 1));
                due("behind binds 1", 0, Edges.land(x, two + "not not not not 0;"));
                due("binds not not not not 0", false, x.would(0, 1));
                due("behind that", 0, Edges.land(x, two + "((((1)))) and 2 = 1 + 1 * 1;"));
                due("binds ((((1)))) and 2 = 1 + 1 * 1", true, x.would(0, 1));
                due("behind all", 0, Edges.land(x, two + "2 = 1 + 1;"));
                due("binds 2 = 1 + 1", true, x.would(0, 1));
            }
        }
        FirstChimney x = new FirstChimney();
        for (int i = 0; i < 4; i++) {
            due("FULL " + i, 0, Edges.land(x, Edges.FULL));
            due("paths " + i, 10, x.count(1));
            due("a FAULT " + i, 5 + 16 * (SEVEN + TEN).length(), Edges.land(x, SEVEN + TEN + "path a b;"));
            due("a pair " + i, 0, Edges.land(x, "place a;place b;path a b;"));
            due("paths of the pair " + i, 1, x.count(1));
            due("PERSONS of the pair " + i, 0, x.count(2) + x.count(3));
            due("smoke of the pair " + i, 30, x.count(4));
            due("REACH of the pair " + i, 3, x.reach(0));
        }
    }

    private static void mornings() {
        of(4, "40 lines at most.");
        StringBuilder lines = new StringBuilder();
        for (int i = 0; i < 39; i++) {
            lines.append(new String[] {"minute;", "walk h b;", "give m i;", "vow h i;"}[i % 4]);
        }
        FirstChimney x = Edges.told(Edges.FULL);
        due("39", 0, Edges.morning(x, lines.toString()));
        due("lines", 39, x.count(10));
        due("40", 0, Edges.morning(x, lines + "minute;"));
        due("lines", 40, x.count(10));
        for (String word : "minute walk give vow minute; walk! vow;".split(" ")) {
            morningFault(5, lines + "minute;^" + word);
        }
        for (String word : "tea place ; 1 ! in minutes 12345 abcdefghi".split(" ")) {
            morningFault(1, lines + "minute;^" + word);
        }
        of(4, "MORNING: any number of minute ;");
        for (String text : new String[] {"", " ", "\n\n"}) {
            FirstChimney y = Edges.busy();
            due("none", 0, Edges.morning(y, text));
            due("no lines", 0, y.count(10));
            due("minute stays", 1, y.count(6));
        }
        of(4, "(a PERSON to a PLACE; a THING to a PERSON; two PERSONS, not the same)");
        due("the first and the last of all", 0, Edges.morning(x, "walk h a;walk l g;give m h;give r l;vow h l;vow l h;"));
        due("their lines", 6, x.count(10));
        of(4, "2 a NAME of no PLACE (behind path, its second, behind in, the second of walk), of no PERSON (behind of, walk, the second of give, behind vow, its second), of no THING (behind give) told");
        for (String name : "a g m r tea clock".split(" ")) {
            morningFault(2, "walk ^" + name + " a;");
            morningFault(2, "give m ^" + name + ";");
            morningFault(2, "vow ^" + name + " h;");
            morningFault(2, "vow h ^" + name + ";");
        }
        for (String name : "h l m r tea judge".split(" ")) {
            morningFault(2, "walk h ^" + name + ";");
        }
        for (String name : "a g h l tea price".split(" ")) {
            morningFault(2, "give ^" + name + " h;");
        }
        of(4, "of vow that is the first one");
        morningFault(3, "vow h ^h;");
        morningFault(3, "vow l ^l;");
        due("another one", 0, Edges.morning(x, "vow h l;"));
        of(4, "A NAME is another WORD than place");
        for (String word : WORDS) {
            morningFault(1, "walk ^" + word + " a;");
            morningFault(1, "walk h ^" + word + ";");
            morningFault(1, "give ^" + word + " h;");
            morningFault(1, "give m ^" + word + ";");
            morningFault(1, "vow ^" + word + " h;");
            morningFault(1, "vow h ^" + word + ";");
            if (!word.equals("minute") && !word.equals("walk") && !word.equals("give") && !word.equals("vow")) {
                morningFault(1, "^" + word + ";");
                morningFault(1, "minute;^" + word + ";");
            }
        }
        of(4, "The TAPE is read as a MORNING, likewise.");
        for (String text : "^; ^1 ^tea ^! minute^ minute^! walk^ walk^; vow^ give^".split(" ")) {
            morningFault(1, text);
        }
        morningFault(1, "minute \n ^");
        morningFault(1, "minute ^minute;");
        morningFault(1, "minute ^1;");
        morningFault(1, "walk h^");
        morningFault(1, "walk h^;");
        morningFault(1, "walk h a^");
        morningFault(1, "walk h a ^b;");
        morningFault(1, "give m h ^i;");
        morningFault(1, "vow h i ^j;");
        morningFault(1, "walk h ^1;");
        morningFault(1, "minute" + Edges.repeated(" ", 994) + "^");
        due("as long as the TAPE", 0, Edges.morning(x, Edges.repeated(" ", 993) + "minute;"));
        due("one line", 1, x.count(10));
        due("a sign longer", 1 + 16 * 1000, Edges.morning(x, Edges.repeated(" ", 994) + "minute;"));
        due("the line stays", 1, x.count(10));
        of(4, "A MORNING is the MORNING.");
        due("another one", 0, Edges.morning(x, "give m h;minute;"));
        due("in its place", 2, x.count(10));
        due("its first line", 0, x.judged(0));
        Edges.leaves("morning", "", y -> {
            due("another one", 0, Edges.morning(y, "minute;"));
            due("the first again", 0, Edges.morning(y, "minute;give m k;vow h i;"));
        });
    }

    public static void main(String[] args) {
        newObjects();
        feeding();
        taken();
        tokens();
        landLines();
        names();
        laws();
        faults();
        landIsTheLand();
        mornings();
        Edges.end();
    }
}
