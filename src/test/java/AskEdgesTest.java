import java.util.NoSuchElementException;

/** The edges that the document names for what is asked of a LAND and of how all is: promises 14 to 42. */
public final class AskEdgesTest {
    private static final int NONE = Edges.NONE;
    /** None of these is a PLACE, a PERSON or a THING of any LAND. */
    private static final int[] FAR_OFF = {Edges.LEAST, -33, -32, -2, -1, 7, 8, 31, 32, 33, 64, 1000, Edges.MOST};
    private static final String SEVEN = "place a;place b;place c;place d;place e;place f;place g;";
    private static final String ROW = SEVEN + "path a b;path b c;path c d;path d e;path e f;path f g;";
    private static final String STAR = SEVEN + "path a b;path a c;path a d;path a e;path a f;path a g;";
    private static final String PAIR = "place a;place b;path a b;";

    private static void of(int promise, String words) {
        Edges.of(promise, words);
    }

    private static void due(String what, long want, long got) {
        Edges.due(what, want, got);
    }

    private static void due(String what, boolean want, boolean got) {
        Edges.due(what, want, got);
    }

    private static void soon() {
        of(14, "SOON; NONE: others, not by 99.");
        FirstChimney full = Edges.told(Edges.FULL);
        for (int number : FAR_OFF) {
            due("PERSON " + number, NONE, full.soon(number, 0));
            due("PLACE " + number, NONE, full.soon(0, number));
            due("both " + number, NONE, full.soon(number, number));
        }
        due("PERSON 5", NONE, full.soon(5, 0));
        due("the last of both", 0, full.soon(4, 6));
        due("no way", NONE, Edges.told("place a;place b;person h plain in a wakes 0;").soon(0, 1));
        Edges.leaves("soon", x -> x.soon(4, 0));
        of(14, "0 if they are there; else in how many minutes (1 to 99), at the least, they can be: as many as go by till they are READY (0: they are), and one for each path, a slow one two.");
        // 42 is as late as one can be: asleep till 30, then twelve minutes over six paths; smoke 1 does not matter.
        FirstChimney row = Edges.told(ROW + "person h slow in a wakes 30;person i plain in a wakes 30;person j plain in a wakes 0;person k slow in a wakes 0;thing t worth 0 of k;smoke 1;");
        for (int place = 1; place <= 6; place++) {
            due("slow, asleep, to " + place, 30 + 2 * place, row.soon(0, place));
            due("asleep, to " + place, 30 + place, row.soon(1, place));
            due("plain, to " + place, place, row.soon(2, place));
            due("slow, to " + place, 2 * place, row.soon(3, place));
        }
        for (int person = 0; person <= 3; person++) {
            due("there, " + person, 0, row.soon(person, 0));
        }
        row.walk(2, 1);
        row.walk(3, 1);
        due("ACTED, there", 0, row.soon(2, 1));
        due("ACTED, back", 2, row.soon(2, 0));
        due("ACTED, on", 6, row.soon(2, 6));
        due("slow, ACTED, there", 0, row.soon(3, 1));
        due("slow, ACTED, back", 4, row.soon(3, 0));
        due("slow, ACTED, on", 12, row.soon(3, 6));
        FirstChimney later = Edges.told(ROW + "person h slow in a wakes 30;person i plain in a wakes 1;person k slow in a wakes 0;thing t worth 0 of k;smoke 60;");
        later.minute();
        due("a gift", 0, later.give(0, 1));
        due("slow, gave", 1 + 2, later.soon(2, 1));
        later.minute();
        due("slow, a minute later", 2, later.soon(2, 1));
        later.walk(2, 1);
        due("slow, WALKED", 2 + 2, later.soon(2, 2));
        later.minute();
        due("slow, WALKED in the minute ahead", 1 + 2, later.soon(2, 2));
        later.minute();
        due("slow, READY", 2, later.soon(2, 2));
        Edges.minutes(later, 25);
        due("asleep for a minute more", 1 + 2, later.soon(0, 1));
        later.minute();
        due("AWAKE", 2, later.soon(0, 1));
        later.minute();
        due("AWAKE longer", 2, later.soon(0, 1));
    }

    private static void meetAndAll() {
        of(15, "MEET; NONE: others, the same, not by 99.");
        FirstChimney full = Edges.told(Edges.FULL);
        for (int number : FAR_OFF) {
            due("PERSON " + number, NONE, full.meet(number, 0));
            due("with PERSON " + number, NONE, full.meet(0, number));
        }
        due("PERSON 5", NONE, full.meet(5, 0));
        due("with PERSON 5", NONE, full.meet(0, 5));
        for (int person = 0; person <= 4; person++) {
            due("the same " + person, NONE, full.meet(person, person));
        }
        due("the last, one asleep for a minute", 2, full.meet(4, 3));
        due("no way", NONE, Edges.told("place a;place b;person h plain in a wakes 0;person i plain in b wakes 0;").meet(0, 1));
        Edges.leaves("meet", x -> x.meet(0, 4));
        of(15, "the least number of minutes (0 to 99) by which, by SOON, both can be at one PLACE");
        FirstChimney ends = Edges.told(ROW + "person h slow in a wakes 30;person i slow in g wakes 30;person j slow in g wakes 30;person k plain in a wakes 0;smoke 1;");
        due("asleep at one PLACE", 0, ends.meet(1, 2));
        due("half way", 30 + 6, ends.meet(0, 1));
        due("from the other one", 30 + 6, ends.meet(1, 0));
        due("a sleeper waits", 6, ends.meet(3, 1));
        due("at home", 0, ends.meet(0, 3));
        of(16, "ALL, what 0: where, 1: in how many minutes; NONE: others, nobody, not by 99.");
        for (int what : new int[] {Edges.LEAST, -2, -1, 2, 3, Edges.MOST}) {
            due("what " + what, NONE, ends.all(what));
        }
        due("nobody, where", NONE, Edges.told(ROW).all(0));
        due("nobody, when", NONE, Edges.told(ROW).all(1));
        FirstChimney apart = Edges.told("place a;place b;place c;path a c;person h plain in a wakes 0;person i plain in c wakes 0;person j plain in b wakes 0;");
        due("no way, where", NONE, apart.all(0));
        due("no way, when", NONE, apart.all(1));
        Edges.leaves("all", x -> x.all(0));
        of(16, "the PLACE at which all PERSONS can be together the soonest; of equal ones the first");
        due("half way, where", 3, ends.all(0));
        due("half way, when", 36, ends.all(1));
        FirstChimney one = Edges.told(SEVEN + "person h slow in g wakes 30;");
        due("one alone, where", 6, one.all(0));
        due("one alone, when", 0, one.all(1));
        FirstChimney equal = Edges.told(SEVEN + "path g f;person h plain in f wakes 0;person i plain in g wakes 0;");
        due("the first of equal ones", 5, equal.all(0));
        due("in one", 1, equal.all(1));
        FirstChimney turned = Edges.told(SEVEN + "path g f;person h plain in g wakes 0;person i plain in f wakes 0;");
        due("by PLACES, not PERSONS", 5, turned.all(0));
        due("all at one", 0, Edges.told(PAIR + Edges.people(5, "slow", 30)).all(1));
    }

    private static void tour() {
        of(17, "TOUR; NONE: others, not by 99.");
        FirstChimney full = Edges.told(Edges.FULL);
        for (int number : FAR_OFF) {
            due("PERSON " + number, NONE, full.tour(number));
        }
        due("PERSON 5", NONE, full.tour(5));
        // From g: a, b, c, d, e, f.
        due("the last", 30 + 6, full.tour(4));
        Edges.leaves("tour", x -> x.tour(4));
        of(17, "in how many (0 to 99), at the least, they can have been at all PLACES of the REACH of where they are, counted as for SOON (0: there is no other).");
        due("no other", 0, Edges.told("place a;place b;place c;path b c;person h slow in a wakes 30;").tour(0));
        due("one alone", 0, Edges.told("place a;person h slow in a wakes 30;").tour(0));
        FirstChimney two = Edges.told("place c;place a;place b;path a b;person h plain in a wakes 0;person i slow in b wakes 0;");
        due("one other", 1, two.tour(0));
        due("one other, slow", 2, two.tour(1));
        two.walk(0, 2);
        two.walk(1, 1);
        due("ACTED", 2, two.tour(0));
        due("ACTED, slow", 4, two.tour(1));
        // 52 is as long as it can be: eleven paths out of a star's middle, slow, asleep till 30.
        FirstChimney star = Edges.told(STAR + "person h slow in a wakes 30;person i plain in a wakes 0;person j plain in g wakes 0;");
        due("a star, slow, asleep", 30 + 22, star.tour(0));
        due("a star from its middle", 11, star.tour(1));
        due("a star from an end", 10, star.tour(2));
        FirstChimney row = Edges.told(ROW + "person h plain in a wakes 0;person i plain in g wakes 0;person j plain in d wakes 0;person k plain in b wakes 0;person l plain in f wakes 0;");
        due("a row from an end", 6, row.tour(0));
        due("a row from the other end", 6, row.tour(1));
        due("a row from its middle", 9, row.tour(2));
        due("a row beside its end", 7, row.tour(3));
        due("a row beside the other end", 7, row.tour(4));
        due("a ring", 6, Edges.told(ROW + "path g a;person h plain in d wakes 0;").tour(0));
    }

    private static void intime() {
        of(18, "INTIME; false: others, not by 99, too late.");
        FirstChimney full = Edges.told(Edges.FULL);
        for (int number : FAR_OFF) {
            due("PERSON " + number, false, full.intime(number, 0));
            due("PLACE " + number, false, full.intime(0, number));
        }
        due("PERSON 5", false, full.intime(5, 0));
        due("the last of both", true, full.intime(4, 6));
        due("no way", false, Edges.told("place a;place b;person h plain in a wakes 0;").intime(0, 1));
        Edges.leaves("intime", x -> x.intime(0, 0));
        of(18, "whether the minute and what SOON tells, together, are less than what smoke tells.");
        due("6 of 7", true, Edges.told(ROW + "person h plain in a wakes 0;smoke 7;").intime(0, 6));
        due("6 of 6", false, Edges.told(ROW + "person h plain in a wakes 0;smoke 6;").intime(0, 6));
        due("6 of 5", false, Edges.told(ROW + "person h plain in a wakes 0;smoke 5;").intime(0, 6));
        due("42 of 43", true, Edges.told(ROW + "person h slow in a wakes 30;smoke 43;").intime(0, 6));
        due("42 of 42", false, Edges.told(ROW + "person h slow in a wakes 30;smoke 42;").intime(0, 6));
        due("there, with smoke 1", true, Edges.told("place a;person h slow in a wakes 30;smoke 1;").intime(0, 0));
        FirstChimney x = Edges.told(ROW + "person h plain in a wakes 0;smoke 7;");
        for (int minute = 0; minute < 7; minute++) {
            for (int place = 0; place <= 6; place++) {
                due("minute " + minute + " to " + place, minute + place < 7, x.intime(0, place));
            }
            x.minute();
        }
        due("the next morning", true, x.intime(0, 6));
    }

    private static void backAndCould() {
        String six = "thing m worth 0 of h;thing n worth 1 of h;thing o worth 2 of h;thing p worth 3 of h;thing q worth 4 of h;thing r worth 5 of h;";
        of(19, "THINGS that are not with those whose they are by right (bits)");
        FirstChimney x = Edges.told("place a;" + Edges.people(5, "plain", 0) + six + "smoke 9;binds clock = 7;");
        due("none", 0, x.back());
        for (int thing = 0; thing < 6; thing++) {
            due("given", 0, x.give(thing, 4));
            due("THINGS to " + thing, (2 << thing) - 1, x.back());
            x.minute();
        }
        due("given back", 0, x.give(0, 0));
        due("with whose it is", 62, x.back());
        x.minute();
        due("given on, it BINDS", 1, x.give(5, 3));
        due("that one does not go back", 30, x.back());
        Edges.minutes(x, 1);
        due("by right, given on", 0, x.give(5, 0));
        due("from whose it is by right", 62, x.back());
        due("SMOKE", true, x.minute());
        due("none then", 0, x.back());
        due("by right", 3, x.thing(5, 1));
        Edges.leaves("back", y -> y.back());
        of(20, "COULD, as bits; NONE: others.");
        for (int number : FAR_OFF) {
            due("THING " + number, NONE, x.could(number));
        }
        due("THING 6", NONE, x.could(6));
        due("to all others", 30, x.could(0));
        due("to all others, the last THING", 23, x.could(5));
        due("fewer THINGS", NONE, Edges.told("place a;person h plain in a wakes 0;thing t worth 0 of h;").could(1));
        Edges.leaves("could", y -> y.could(0));
        of(20, "PERSONS to whom it could be GIVEN now (bits)");
        due("the HOLDER has ACTED", 0, x.walk(0, 0) || x.give(1, 1) == NONE ? NONE : x.could(0));
        due("what the other one has, who is READY", 29, x.could(1));
        FirstChimney alone = Edges.told(PAIR + "person h plain in a wakes 0;person i plain in b wakes 0;person j plain in a wakes 1;person k plain in a wakes 30;thing t worth 0 of h;thing u worth 0 of k;smoke 60;");
        due("nobody AWAKE is there", 0, alone.could(0));
        due("the HOLDER sleeps", 0, alone.could(1));
        alone.minute();
        due("one is", 4, alone.could(0));
        alone.walk(2, 1);
        due("one has gone", 0, alone.could(0));
        Edges.minutes(alone, 28);
        due("asleep in 29", 0, alone.could(0));
        due("the HOLDER in 29", 0, alone.could(1));
        alone.minute();
        due("AWAKE in 30", 8, alone.could(0));
        due("the HOLDER in 30", 1, alone.could(1));
    }

    private static void wouldAndWhen() {
        String two = "place a;" + Edges.people(2, "plain", 0) + "thing t worth 1 of h;";
        of(21, "WOULD; false: others, they have it.");
        FirstChimney x = Edges.told("place a;" + Edges.people(5, "plain", 0) + "thing t worth 1 of h;thing u worth 1 of l;binds 1;");
        for (int number : FAR_OFF) {
            due("THING " + number, false, x.would(number, 0));
            due("PERSON " + number, false, x.would(0, number));
        }
        due("THING 2", false, x.would(2, 0));
        due("PERSON 5", false, x.would(0, 5));
        due("they have it", false, x.would(0, 0));
        due("the last has it", false, x.would(1, 4));
        due("another one", true, x.would(0, 4));
        x.give(0, 4);
        due("they have it now", false, x.would(0, 4));
        due("whose it is by right has it not", true, x.would(0, 0));
        Edges.leaves("would", y -> y.would(1, 2));
        of(21, "whether a GIFT now would BIND, were they together, as if both were READY: the crowd being that at the HOLDER's PLACE, both left out.");
        FirstChimney apart = Edges.told(PAIR + "person h plain in a wakes 9;person i bench in a wakes 0;person j plain in b wakes 9;person k bench in b wakes 0;person l bench in a wakes 1;"
                + "thing t worth 1 of h;thing u worth 1 of i;smoke 60;binds crowd = 1 and judge = 1;");
        due("both asleep and apart", true, apart.would(0, 2));
        due("the one left out is not there", true, apart.would(0, 3));
        due("the one left out is there", false, apart.would(0, 1));
        due("the HOLDER is left out", false, apart.would(1, 2));
        apart.minute();
        due("one more is AWAKE", false, apart.would(0, 2));
        due("one more is AWAKE, one left out", true, apart.would(0, 1));
        apart.walk(1, 1);
        due("one is gone", true, apart.would(0, 2));
        due("the HOLDER has ACTED", true, apart.would(1, 2));
        of(22, "WHEN; NONE: others, they have it, in none.");
        for (int number : FAR_OFF) {
            due("THING " + number, NONE, x.when(number, 0));
            due("PERSON " + number, NONE, x.when(1, number));
        }
        due("THING 2", NONE, x.when(2, 0));
        due("PERSON 5", NONE, x.when(1, 5));
        due("they have it", NONE, x.when(1, 4));
        due("another one", 0, x.when(1, 3));
        due("in none", NONE, Edges.told(two + "binds 0;").when(0, 1));
        Edges.leaves("when", y -> y.when(1, 2));
        of(22, "in which minute (from this one on, ahead of the SMOKE), at the first, such a GIFT would BIND, nobody walking, others AWAKE as they will be.");
        due("this one", 0, Edges.told(two + "smoke 1;binds clock = 0;").when(0, 1));
        due("the SMOKE of 1", NONE, Edges.told(two + "smoke 1;binds clock = 1;").when(0, 1));
        due("the last of 60", 59, Edges.told(two + "smoke 60;binds clock = 59;").when(0, 1));
        due("the SMOKE of 60", NONE, Edges.told(two + "smoke 60;binds clock = 60;").when(0, 1));
        due("the last of 30", 29, Edges.told(two + "binds clock = 29 or clock = 30;").when(0, 1));
        due("the SMOKE of 30", NONE, Edges.told(two + "binds clock = 30;").when(0, 1));
        FirstChimney from = Edges.told(two + "smoke 60;binds clock = 3 or clock = 5;");
        int[] want = {3, 3, 3, 3, 5, 5, NONE};
        for (int minute = 0; minute <= 6; minute++) {
            due("from " + minute, want[minute], from.when(0, 1));
            from.minute();
        }
        FirstChimney wakes = Edges.told("place a;person h plain in a wakes 30;person i plain in a wakes 30;person j bench in a wakes 30;person k plain in a wakes 7;thing t worth 1 of h;smoke 60;binds judge and crowd = 2;");
        due("others wake", 30, wakes.when(0, 1));
        due("another one", 30, wakes.when(0, 3));
        due("the Bench itself is left out", NONE, wakes.when(0, 2));
        FirstChimney first = Edges.told("place a;" + Edges.people(2, "plain", 30) + "person j plain in a wakes 29;thing t worth 1 of h;smoke 30;binds crowd;");
        due("in the last minute", 29, first.when(0, 1));
        due("not ahead of the SMOKE", NONE, first.when(0, 2));
    }

    private static void people() {
        of(23, "VOWS, as bits (by right); NONE: others.");
        FirstChimney x = Edges.told("place a;" + Edges.people(5, "plain", 0) + "binds clock;");
        for (int number : FAR_OFF) {
            due("vows of " + number, 4 * NONE, x.vows(number, false) + x.vows(number, true) + x.sees(number) + x.heard(number));
        }
        due("vows of 5", 2 * NONE, x.vows(5, false) + x.vows(5, true));
        due("none", 0, x.vows(0, false) + x.vows(4, true));
        due("a vow", 0, x.vow(0, 4));
        due("of the first", 16, x.vows(0, false));
        due("of the last", 1, x.vows(4, false));
        due("by right", 0, x.vows(0, true) + x.vows(4, true));
        x.minute();
        due("a vow that BINDS", 1, x.vow(4, 3));
        due("both", 9, x.vows(4, false));
        due("the one by right", 8, x.vows(4, true));
        due("of the other one by right", 16, x.vows(3, true));
        Edges.leaves("vows", y -> y.vows(5, true));
        of(24, "SEES, as bits; NONE: others.");
        due("sees of 5", NONE, x.sees(5));
        due("all others", 30, x.sees(0));
        due("all others of the last", 15, x.sees(4));
        due("nobody", 0, Edges.told("place a;place b;person h plain in a wakes 0;person i plain in b wakes 0;").sees(0));
        due("nobody else", 0, Edges.told("place a;person h plain in a wakes 0;").sees(0));
        of(24, "others, AWAKE or not, at the same PLACE, or at one to which a path leads from it (bits)");
        FirstChimney row = Edges.told(ROW + "person h plain in a wakes 30;person i plain in b wakes 30;person j plain in c wakes 30;person k plain in g wakes 30;person l plain in b wakes 0;");
        due("from a", 2 + 16, row.sees(0));
        due("from b", 1 + 4 + 16, row.sees(1));
        due("from c", 2 + 16, row.sees(2));
        due("from g", 0, row.sees(3));
        Edges.leaves("sees", y -> y.sees(5));
        of(25, "HEARD, as bits; NONE: others.");
        FirstChimney five = Edges.told("place a;" + Edges.people(5, "mute", 0));
        due("heard of 5", NONE, five.heard(5));
        for (int person = 0; person <= 4; person++) {
            due("at first", 1 << person, five.heard(person));
        }
        five.minute();
        for (int person = 0; person <= 4; person++) {
            due("all", 31, five.heard(person));
        }
        Edges.leaves("heard", y -> y.heard(5));
    }

    private static void news() {
        of(26, "NEWS; NONE: not by 99.");
        due("nobody", 0, Edges.told(ROW).news());
        due("one", 0, Edges.told(ROW + "person h plain in a wakes 30;").news());
        due("two apart", NONE, Edges.told(PAIR + "person h plain in a wakes 0;person i plain in b wakes 0;smoke 1;").news());
        due("two together", 1, Edges.told(PAIR + Edges.people(2, "plain", 0) + "smoke 1;").news());
        due("five together", 1, Edges.told(PAIR + Edges.people(5, "mute", 0)).news());
        due("one never wakes", NONE, Edges.told(PAIR + Edges.people(2, "plain", 30) + "smoke 30;").news());
        due("one wakes in the last minute", 30, Edges.told(PAIR + Edges.people(2, "plain", 29) + "smoke 30;").news());
        due("as late as can be of a morning", 31, Edges.told(PAIR + Edges.people(2, "plain", 30) + "smoke 31;").news());
        Edges.leaves("news", x -> x.news());
        of(26, "in how many minutes (0 to 99) all have HEARD of all, nobody walking, mornings going by, SMOKE, too");
        // 91 is the most there can be: apart up to the SMOKE, then asleep till 30 of the next morning.
        FirstChimney late = Edges.told(PAIR + "person h plain in a wakes 0;person i plain in a wakes 30;smoke 60;");
        late.walk(0, 1);
        due("91", 91, late.news());
        for (int minute = 1; minute <= 60; minute++) {
            late.minute();
            due("after " + minute, 91 - minute, late.news());
        }
        Edges.minutes(late, 30);
        due("the last minute of it", 1, late.news());
        late.minute();
        due("all have", 0, late.news());
        FirstChimney bridge = Edges.told("place a;place b;place c;path a b;path b c;person h plain in a wakes 0;person i plain in b wakes 0;person j plain in c wakes 0;");
        bridge.walk(1, 0);
        bridge.minute();
        bridge.walk(1, 1);
        bridge.minute();
        bridge.walk(1, 2);
        due("h will not have HEARD of j", NONE, bridge.news());
        bridge.minute();
        bridge.walk(1, 1);
        bridge.minute();
        bridge.walk(1, 0);
        due("h hears of j by i", 1, bridge.news());
        of(27, "ALONE, as bits.");
        due("nobody", 0, Edges.told(ROW).alone());
        due("one", 1, Edges.told("place a;person h plain in a wakes 0;").alone());
        due("one asleep", 0, Edges.told("place a;person h plain in a wakes 1;").alone());
        due("two", 0, Edges.told("place a;" + Edges.people(2, "plain", 0)).alone());
        due("five", 31, Edges.told(ROW + "person h plain in a wakes 0;person i plain in b wakes 0;person j plain in c wakes 0;person k plain in f wakes 0;person l plain in g wakes 0;").alone());
        of(27, "who is AWAKE and at a PLACE without another one who is (bits)");
        FirstChimney wakes = Edges.told("place a;person h plain in a wakes 0;person i plain in a wakes 2;");
        due("the other one sleeps", 1, wakes.alone());
        wakes.minute();
        due("the other one sleeps in 1", 1, wakes.alone());
        wakes.minute();
        due("both AWAKE", 0, wakes.alone());
        Edges.leaves("alone", x -> x.alone());
    }

    private static void ways() {
        FirstChimney row = Edges.told(ROW);
        FirstChimney none = Edges.told(SEVEN);
        FirstChimney star = Edges.told(STAR);
        of(28, "REACH, as bits; NONE: others.");
        for (int number : FAR_OFF) {
            due("reach, links of " + number, 2 * NONE, row.reach(number) + row.links(number));
            due("far from " + number, NONE, row.far(number, 0));
            due("far to " + number, NONE, row.far(0, number));
        }
        for (int place = 0; place <= 6; place++) {
            due("all", 127, row.reach(place));
            due("itself", 1 << place, none.reach(place));
        }
        due("not told", NONE, Edges.told("place a;").reach(1));
        Edges.leaves("reach", x -> x.reach(7));
        of(29, "FAR (0: the same); NONE: others, never.");
        for (int place = 0; place <= 6; place++) {
            for (int other = 0; other <= 6; other++) {
                due("of a row", Math.abs(place - other), row.far(place, other));
                due("never", place == other ? 0 : NONE, none.far(place, other));
            }
        }
        due("not told", NONE, Edges.told("place a;").far(0, 1));
        Edges.leaves("far", x -> x.far(7, 7));
        of(30, "PLACES, each alone, such that without it two others of its REACH were not in one REACH (bits)");
        due("no PLACES", 0, new FirstChimney().cuts());
        due("no paths", 0, none.cuts());
        due("a row", 2 + 4 + 8 + 16 + 32, row.cuts());
        due("a star", 1, star.cuts());
        due("a ring", 0, Edges.told(ROW + "path g a;").cuts());
        due("a pair", 0, Edges.told(PAIR).cuts());
        due("three in a row", 4, Edges.told("place a;place b;place c;path a c;path c b;").cuts());
        due("two rows apart", 2 + 32, Edges.told(SEVEN + "path a b;path b c;path e f;path f g;").cuts());
        due("the last", 64, Edges.told(SEVEN + "path a g;path b g;").cuts());
        due("FULL", 1, Edges.told(Edges.FULL).cuts());
        Edges.leaves("cuts", x -> x.cuts());
        of(31, "HUB; NONE: no PLACES.");
        due("no PLACES", NONE, new FirstChimney().hub());
        due("one", 0, Edges.told("place a;").hub());
        of(31, "the PLACE from which the farthest of its REACH is the least far; of equal ones the first");
        due("all equal", 0, none.hub());
        due("a row", 3, row.hub());
        due("an even row", 2, Edges.told("place a;place b;place c;place d;place e;place f;path a b;path b c;path c d;path d e;path e f;").hub());
        due("a star", 0, star.hub());
        due("a star about the last", 6, Edges.told(SEVEN + "path g a;path g b;path g c;path g d;path g e;path g f;").hub());
        due("a ring", 0, Edges.told(ROW + "path g a;").hub());
        due("one alone beside a pair", 2, Edges.told("place a;place b;place c;path a b;").hub());
        due("one alone, the last", 6, Edges.told(SEVEN + "path a b;path b c;path c d;path d e;path e f;").hub());
        Edges.leaves("hub", x -> x.hub());
        of(32, "LINKS; NONE: others.");
        due("six", 6, star.links(0));
        due("one", 1, star.links(6));
        due("none", 0, none.links(6));
        due("not told", NONE, Edges.told("place a;").links(1));
        Edges.leaves("links", x -> x.links(7));
        of(36, "WIDE; NONE: there is no path.");
        due("no PLACES", NONE, new FirstChimney().wide());
        due("one PLACE", NONE, Edges.told("place a;").wide());
        due("no path", NONE, none.wide());
        due("one path", 1, Edges.told(PAIR).wide());
        of(36, "the two PLACES of one REACH that are the farthest apart; of equal ones the first pair (8 * the lesser + the other one).");
        due("the last pair", 8 * 5 + 6, Edges.told(SEVEN + "path g f;").wide());
        due("a row", 6, row.wide());
        due("a row told backwards", 6, Edges.told(SEVEN + "path g f;path f e;path e d;path d c;path c b;path b a;").wide());
        due("a star", 8 + 2, star.wide());
        due("equal ones", 8 + 3, Edges.told(SEVEN + "path b c;path c d;path e f;path f g;").wide());
        due("a later pair that is wider", 8 * 3 + 6, Edges.told(SEVEN + "path a b;path b c;path d e;path e f;path f g;").wide());
        Edges.leaves("wide", x -> x.wide());
    }

    private static void seen() {
        of(33, "SEEN: true; false: others, 8 there are.");
        for (int number : FAR_OFF) {
            Edges.leaves("see at " + number, x -> due("see at " + number, false, x.see(number, 0, true)));
        }
        for (int minutes : new int[] {Edges.LEAST, -100, -1, 100, 101, Edges.MOST}) {
            Edges.leaves("see by " + minutes, x -> due("see by " + minutes, false, x.see(0, minutes, false)));
        }
        due("not told", false, Edges.told("place a;").see(1, 0, true));
        due("nobody needs to be", true, Edges.told("place a;").see(0, 0, true));
        FirstChimney x = Edges.told(Edges.FULL);
        int[][] taken = {{0, 0}, {6, 0}, {0, 99}, {6, 99}, {0, 0}, {0, 0}, {0, 98}, {1, 1}};
        for (int i = 0; i < 8; i++) {
            due("SEEN " + i, i, x.count(11));
            due("see " + i, true, x.see(taken[i][0], taken[i][1], i % 2 == 0));
        }
        due("eight", 8, x.count(11));
        String eight = Edges.view(x);
        due("a ninth", false, x.see(0, 0, true));
        due("a ninth, wrong", false, x.see(7, 0, true));
        Edges.due("all as it was", eight, Edges.view(x));
        of(34, "that an unknown PERSON, by SOON, from now on, can be at a PLACE in so many minutes (0 to 99), or less, or can not");
        // SOON at b: h 1, i 0, j 2, k 31, l never.
        String five = "place a;place b;place c;path a b;person h plain in a wakes 0;person i plain in b wakes 0;person j slow in a wakes 0;person k plain in a wakes 30;person l plain in c wakes 0;smoke 1;";
        int[][] who = {{0, 2}, {1, 3}, {2, 7}, {3, 7}, {30, 7}, {31, 15}, {32, 15}, {99, 15}};
        for (int[] pair : who) {
            FirstChimney can = Edges.told(five);
            due("see " + pair[0], true, can.see(1, pair[0], true));
            due("who can by " + pair[0], pair[1], can.who());
            FirstChimney not = Edges.told(five);
            due("see not " + pair[0], true, not.see(1, pair[0], false));
            due("who can not by " + pair[0], 31 & ~pair[1], not.who());
        }
        of(34, "PERSONS by whom all SEEN is so (bits)");
        FirstChimney all = Edges.told(five);
        due("nothing SEEN", 31, all.who());
        due("nobody at all", 0, Edges.told(SEVEN).who());
        all.see(1, 30, true);
        due("one SEEN", 7, all.who());
        all.see(1, 1, false);
        due("two SEEN", 4, all.who());
        all.see(1, 99, false);
        due("none by whom all is so", 0, all.who());
        of(34, "8 at most, as all is when it is asked.");
        FirstChimney now = Edges.told(five.replace("smoke 1", "smoke 60"));
        now.see(1, 1, true);
        due("ahead", 3, now.who());
        now.walk(0, 1);
        now.walk(1, 0);
        due("who WALKED: there, and back by 2", 1, now.who());
        now.minute();
        due("a minute later", 3, now.who());
        now.walk(2, 1);
        due("a slow one is there", 7, now.who());
        Edges.minutes(now, 28);
        due("asleep in 29", 7, now.who());
        now.minute();
        due("AWAKE in 30", 15, now.who());
        Edges.leaves("who", y -> y.who());
        ask(five);
    }

    private static void ask(String five) {
        of(35, "ASK, as 8 * the minutes + the PLACE; NONE: none parts them.");
        due("nobody", NONE, Edges.told(SEVEN).ask());
        due("one", NONE, Edges.told(SEVEN + "person h plain in a wakes 0;").ask());
        due("two alike", NONE, Edges.told(ROW + Edges.people(2, "plain", 30)).ask());
        due("five alike", NONE, Edges.told(ROW + Edges.people(5, "slow", 0)).ask());
        due("no way to part them", NONE, Edges.told("place a;person h plain in a wakes 0;person i slow in a wakes 9;").ask());
        FirstChimney left = Edges.told(five);
        left.see(2, 99, true);
        due("one is left", 16, left.who());
        due("one can't be parted", NONE, left.ask());
        left.see(0, 99, true);
        due("nobody is left", NONE, left.ask());
        Edges.leaves("ask", y -> y.ask());
        of(35, "the minutes (0 to 99) and the PLACE by which the greater number of WHO that can, or can not, is the least, if that is less than all; of equal ones the first by minutes, then PLACES.");
        due("two at two PLACES", 0, Edges.told(PAIR + "person h plain in a wakes 0;person i plain in b wakes 0;").ask());
        due("the last PLACE", 6, Edges.told(SEVEN + "person h plain in a wakes 0;person i plain in b wakes 0;person j plain in c wakes 0;person k plain in g wakes 0;person l plain in g wakes 0;").ask());
        due("the first of equal PLACES", 4, Edges.told(SEVEN + "person h plain in g wakes 0;person i plain in e wakes 0;").ask());
        // At 0 a has h, j, k of five: three and two.
        due("most can", 0, Edges.told(five).ask());
        // 31 is as late as it can be of two: both asleep till 30, one of them slow.
        due("31", 8 * 31 + 1, Edges.told(PAIR + "person h plain in a wakes 30;person i slow in a wakes 30;").ask());
        due("30", 8 * 30 + 1, Edges.told(PAIR + "person h plain in a wakes 30;person i plain in a wakes 29;").ask());
        due("1", 8 + 1, Edges.told(PAIR + "person h plain in a wakes 0;person i slow in a wakes 0;").ask());
        FirstChimney two = Edges.told(PAIR + "person h plain in a wakes 0;person i plain in a wakes 1;person j plain in a wakes 2;person k plain in a wakes 3;");
        due("two and two ahead of one and three", 8 * 2 + 1, two.ask());
        two.see(1, 2, false);
        due("of those who are left", 8 * 3 + 1, two.ask());
        two.minute();
        due("a minute later one is left", 8, two.who());
        due("as all is when it is asked", NONE, two.ask());
    }

    private static void worths() {
        of(37, "HAS (by right); NONE: others.");
        String six = "thing m worth 30 of h;thing n worth 30 of h;thing o worth 30 of h;thing p worth 30 of h;thing q worth 30 of h;thing r worth 30 of h;";
        FirstChimney x = Edges.told("place a;" + Edges.people(5, "plain", 0) + six);
        for (int number : FAR_OFF) {
            due("has, sleeps of " + number, 3 * NONE, x.has(number, false) + x.has(number, true) + x.sleeps(number));
        }
        due("of 5", 2 * NONE, x.has(5, false) + x.has(5, true));
        due("as much as can be", 180, x.has(0, false));
        due("by right", 180, x.has(0, true));
        due("nothing", 0, x.has(4, false) + x.has(4, true));
        x.give(5, 4);
        due("one less", 150, x.has(0, false));
        due("by right still", 180, x.has(0, true));
        due("of the last", 30, x.has(4, false));
        due("of the last by right", 0, x.has(4, true));
        Edges.leaves("has", y -> y.has(5, true));
        of(38, "how many minutes go by till they are AWAKE (0: they are)");
        FirstChimney sleeper = Edges.told("place a;person h plain in a wakes 30;person i plain in a wakes 0;person j plain in a wakes 1;smoke 60;");
        for (int minute = 0; minute < 60; minute++) {
            due("wakes 30 in " + minute, Math.max(0, 30 - minute), sleeper.sleeps(0));
            due("wakes 0 in " + minute, 0, sleeper.sleeps(1));
            due("wakes 1 in " + minute, minute == 0 ? 1 : 0, sleeper.sleeps(2));
            sleeper.minute();
        }
        due("the next morning", 30, sleeper.sleeps(0));
        due("as if there were no SMOKE", 30, Edges.told("place a;person h plain in a wakes 30;smoke 1;").sleeps(0));
        due("of 5", NONE, x.sleeps(5));
        due("not told", NONE, sleeper.sleeps(3));
        Edges.leaves("sleeps", y -> y.sleeps(5));
        of(39, "RICH (by right); NONE: nobody.");
        due("nobody", 2 * NONE, Edges.told(SEVEN).rich(false) + Edges.told(SEVEN).rich(true));
        due("no THINGS", 0, Edges.told("place a;" + Edges.people(5, "plain", 0)).rich(false));
        of(39, "who has the most so; of equal ones the first.");
        due("worth nothing", 0, Edges.told("place a;" + Edges.people(5, "plain", 0) + "thing t worth 0 of l;").rich(true));
        due("worth 1", 4, Edges.told("place a;" + Edges.people(5, "plain", 0) + "thing t worth 1 of l;").rich(true));
        FirstChimney equal = Edges.told("place a;" + Edges.people(5, "plain", 0) + "thing t worth 5 of l;thing u worth 2 of j;thing v worth 3 of j;thing w worth 4 of i;");
        due("equal ones", 2, equal.rich(false));
        equal.give(1, 3);
        due("now", 4, equal.rich(false));
        due("by right", 2, equal.rich(true));
        Edges.leaves("rich", y -> y.rich(true));
    }

    private static void chance() {
        of(40, "CHANCE, by odds (0 to 10); NONE: others.");
        FirstChimney x = new FirstChimney();
        for (int odds : new int[] {Edges.LEAST, -1, 11, Edges.MOST}) {
            due("odds " + odds, NONE, x.chance(1, odds));
        }
        for (int minutes : new int[] {Edges.LEAST, -1, 0, 7, Edges.MOST}) {
            due("minutes " + minutes, NONE, x.chance(minutes, 5));
        }
        for (int minutes = 1; minutes <= 6; minutes++) {
            due("never", 1000000, x.chance(minutes, 0));
            due("surely", 0, x.chance(minutes, 10));
            due("odds 9", new int[] {100000, 10000, 1000, 100, 10, 1}[minutes - 1], x.chance(minutes, 9));
            due("odds 1", new int[] {900000, 810000, 729000, 656100, 590490, 531441}[minutes - 1], x.chance(minutes, 1));
        }
        Edges.leaves("chance", y -> y.chance(7, 11));
        of(40, "that none does in so many (1 to 6) minutes, from this one on (those left out that are not ahead of it), in millionths, cut.");
        int[] powers = {1000000, 500000, 250000, 125000, 62500, 31250, 15625};
        FirstChimney last = Edges.told("smoke 8;");
        for (int minute = 0; minute < 8; minute++) {
            for (int minutes = 1; minutes <= 6; minutes++) {
                due(minutes + " from " + minute, powers[Math.min(minutes, 8 - minute)], last.chance(minutes, 5));
            }
            last.minute();
        }
        due("the next morning", 15625, last.chance(6, 5));
        due("smoke 1", 500000, Edges.told("smoke 1;").chance(6, 5));
    }

    /** The answer, or -9 if NoSuchElementException itself is thrown. */
    private static int rest(FirstChimney x, int both, int loses, int gains, int what) {
        try {
            return x.rests(both, loses, gains, what);
        } catch (NoSuchElementException e) {
            return e.getClass() == NoSuchElementException.class ? -9 : -10;
        }
    }

    private static void rests() {
        of(41, "NoSuchElementException: others, none such.");
        for (int stake : new int[] {Edges.LEAST, -2, -1, 10, 11, Edges.MOST}) {
            for (int what = -1; what <= 0; what++) {
                FirstChimney x = new FirstChimney();
                due("both " + stake, -9, rest(x, stake, 0, 0, what));
                due("loses " + stake, -9, rest(x, 0, stake, 0, what));
                due("gains " + stake, -9, rest(x, 0, 0, stake, what));
            }
        }
        for (int what : new int[] {Edges.LEAST, -3, -2, 4, 5, Edges.MOST}) {
            due("what " + what, -9, rest(new FirstChimney(), 0, 0, 0, what));
            due("what " + what + " of one", -9, rest(new FirstChimney(), 9, 9, 9, what));
        }
        Edges.leaves("rests of others", x -> due("rests of others", -9, rest(x, 10, 0, 0, NONE)));
        Edges.leaves("rests, none such", x -> due("rests, none such", -9, rest(x, 9, 9, 9, 1)));
        Edges.leaves("rests", x -> due("rests", 0, rest(x, 9, 9, 9, 0)));
        of(41, "what NONE: how many; i: the i-th as 2 * the first one's choice + the other one's (1 lights; the least first).");
        restsOf(9, 9, 9, 0);
        restsOf(0, 0, 0, 0, 1, 2, 3);
        restsOf(9, 0, 0, 0, 1, 2);
        restsOf(0, 9, 0, 0, 3);
        restsOf(0, 0, 9, 0, 1, 2);
        restsOf(0, 9, 9, 0);
        restsOf(9, 0, 9, 0, 1, 2);
        restsOf(9, 9, 0, 0);
        of(41, "RESTS: by which neither would get more by the other.");
        // As much is not more: to light alone for nothing, to light both for nothing where the other one gets nothing.
        restsOf(1, 0, 0, 0, 1, 2);
        restsOf(0, 1, 0, 0, 3);
        restsOf(1, 1, 0, 0);
        restsOf(0, 0, 1, 0, 1, 2);
        restsOf(0, 1, 1, 0);
    }

    private static void restsOf(int both, int loses, int gains, int... want) {
        FirstChimney x = new FirstChimney();
        String name = both + " " + loses + " " + gains;
        due(name + " how many", want.length, rest(x, both, loses, gains, NONE));
        for (int i = 0; i < want.length; i++) {
            due(name + " rest " + i, want[i], rest(x, both, loses, gains, i));
        }
        due(name + " one more", -9, rest(x, both, loses, gains, want.length));
    }

    private static void mornings() {
        of(42, "MORNINGS by a SEED (0 to 9999), what 0: how many, 1: bits, 2: HEARD; NONE: others.");
        FirstChimney x = Edges.told(Edges.FULL);
        for (int what = 0; what <= 2; what++) {
            for (int seed : new int[] {Edges.LEAST, -1, 10000, 10001, Edges.MOST}) {
                due("SEED " + seed, NONE, x.mornings(seed, 1, what));
            }
            for (int minutes : new int[] {Edges.LEAST, -1, 0, 100, 101, Edges.MOST}) {
                due("minutes " + minutes, NONE, x.mornings(1, minutes, what));
            }
            due("SEED 0", true, x.mornings(0, 1, what) >= 0);
            due("SEED 9999", true, x.mornings(9999, 99, what) >= 0);
        }
        for (int what : new int[] {Edges.LEAST, -1, 3, 4, Edges.MOST}) {
            due("what " + what, NONE, x.mornings(1, 1, what));
        }
        of(42, "MORNINGS by a SEED of so many (1 to 99) minutes, from now on (all is as ahead then)");
        Edges.leaves("mornings", y -> y.mornings(9999, 99, 0));
        Edges.leaves("mornings of nothing", y -> y.mornings(10000, 99, 0));
        FirstChimney twice = Edges.told(Edges.FULL);
        due("the same again", twice.mornings(77, 99, 0), twice.mornings(77, 99, 0));
        of(42, "A DRAW below m: g becomes (g * 1103515245 + 12345) modulo 2147483648 (g is the SEED at first); it is g / 65536, cut, modulo m.");
        String two = "place a;" + Edges.people(2, "plain", 0);
        // SEED 0: 0, 21468, 9988, 22117; SEED 1: 16838, 5758, 10113, 17515; SEED 9999: 4241, 233, 22049: deeds 3, 3, 4.
        due("SEED 0, a vow of 0 and 1", 1, Edges.told(two).mornings(0, 1, 0));
        due("SEED 1, a vow of 0 and 1", 1, Edges.told(two).mornings(1, 1, 0));
        due("SEED 9999, nothing", 0, Edges.told(two).mornings(9999, 1, 0));
        of(42, "0, 1: that one WALKS there, 2, if there are THINGS: a DRAW below THINGS: that is GIVEN to that one, 3: a DRAW below PERSONS: these VOW (each if it can be)");
        // SEED 13: 22290, 13853, 11622: PERSON 0, deed 2, no DRAW without THINGS; then 27833, 1243, 1103, 8290: PERSON 1 and 0 VOW.
        due("SEED 13, no THINGS", 1, Edges.told(two).mornings(13, 2, 0));
        due("SEED 13, a minute", 0, Edges.told(two).mornings(13, 1, 0));
        // With a THING 27833 is the DRAW below THINGS: it goes to PERSON 0; then 1243, 1103, 8290: a walk that can't be.
        due("SEED 13, a THING of the other one", 1, Edges.told(two + "thing t worth 0 of i;").mornings(13, 2, 0));
        due("SEED 13, it goes back", 1, Edges.told(two + "thing t worth 0 of i;").mornings(13, 1, 1));
        due("SEED 13, a THING of that one", 0, Edges.told(two + "thing t worth 0 of h;").mornings(13, 2, 0));
        // SEED 56: 25441, 26477, 17029: deed 4, no DRAW; then 26576, 6386, 6738, 12887: PERSON 0 and 1 VOW.
        due("SEED 56", 1, Edges.told(two).mornings(56, 2, 0));
        due("SEED 56, a minute", 0, Edges.told(two).mornings(56, 1, 0));
        // SEED 116: 19931, 1418, 24573, 12630: PERSON 1 and 0 VOW; 21183, 16886, 4823, 32166: the same once more.
        due("SEED 116, vowed already", 1, Edges.told(two).mornings(116, 2, 0));
        due("SEED 116, SMOKE between", 2, Edges.told(two + "smoke 1;").mornings(116, 2, 0));
        due("SEED 116, SMOKE between, it BINDS", 1, Edges.told(two + "smoke 1;binds 1;").mornings(116, 2, 0));
        // SEED 3: 17747, 7107, 10365: deed 0 to PLACE 1; SEED 5: 18655, 8457, 10616: deed 1 to PLACE 1; SEEDS 10, 4: to PLACE 0.
        due("SEED 3, a walk", 2, Edges.told(PAIR + Edges.people(2, "plain", 0)).mornings(3, 1, 2));
        due("SEED 5, a walk", 2, Edges.told(PAIR + Edges.people(2, "plain", 0)).mornings(5, 1, 2));
        due("SEED 3, no path", 4, Edges.told("place a;place b;" + Edges.people(2, "plain", 0)).mornings(3, 1, 2));
        due("SEED 10, where one is", 4, Edges.told(PAIR + Edges.people(2, "plain", 0)).mornings(10, 1, 2));
        due("SEED 4, where one is", 4, Edges.told(PAIR + Edges.people(2, "plain", 0)).mornings(4, 1, 2));
        // SEED 98: 11754, 22043, 22310: PERSON 0 to PLACE 1; 29921, 16744, 23672, 10519: what is his to PERSON 1, who is not there.
        due("SEED 98, a gift that can't be", 0, Edges.told(PAIR + Edges.people(2, "plain", 0) + "thing t worth 0 of h;").mornings(98, 2, 0));
        due("SEED 98, no path, it can", 1, Edges.told("place a;place b;" + Edges.people(2, "plain", 0) + "thing t worth 0 of h;").mornings(98, 2, 0));
        due("a vow that can't be", 0, Edges.told("place a;" + Edges.people(2, "mute", 0)).mornings(0, 1, 0));
        due("with oneself", 0, Edges.told("place a;" + Edges.people(1, "plain", 0)).mornings(0, 1, 0));
        of(42, "then, also without these, the MINUTE");
        due("nobody, 99 minutes", 0, Edges.told(ROW + "smoke 1;").mornings(0, 99, 2));
        due("asleep in the first minute", 2, Edges.told("place a;" + Edges.people(2, "plain", 1)).mornings(9999, 1, 2));
        due("AWAKE in the second", 4, Edges.told("place a;" + Edges.people(2, "plain", 1)).mornings(9999, 2, 2));
        due("asleep in each of 99", 2, Edges.told("place a;" + Edges.people(2, "plain", 1) + "smoke 1;").mornings(9999, 99, 2));
        of(42, "THINGS not with those whose they are by right at last, as bits");
        String gift = two + "thing t worth 0 of i;";
        due("ahead of the SMOKE", 1, Edges.told(gift + "smoke 2;").mornings(13, 1, 1));
        due("at the SMOKE", 0, Edges.told(gift + "smoke 1;").mornings(13, 1, 1));
        due("it BINDS", 0, Edges.told(gift + "smoke 2;binds 1;").mornings(13, 1, 1));
        of(42, "how many have been HEARD of by all, together, at last.");
        due("five of five", 25, Edges.told("place a;" + Edges.people(5, "plain", 0)).mornings(0, 1, 2));
        due("two of two", 4, Edges.told(two).mornings(0, 1, 2));
        due("one", 1, Edges.told("place a;" + Edges.people(1, "plain", 30)).mornings(0, 99, 2));
    }

    public static void main(String[] args) {
        soon();
        meetAndAll();
        tour();
        intime();
        backAndCould();
        wouldAndWhen();
        people();
        news();
        ways();
        seen();
        worths();
        chance();
        rests();
        mornings();
        Edges.end();
    }
}
