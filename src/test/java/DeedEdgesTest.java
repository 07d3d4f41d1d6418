/** The edges that the document names for PLACES, PERSONS, THINGS, deeds, what is undone, JUDGED, MARKS and counts: promises 5 to 13, 43, 44. */
public final class DeedEdgesTest {
    private static final int NONE = Edges.NONE;
    private static final int[] FAR_OFF = {Edges.LEAST, -33, -32, -2, -1, 7, 8, 31, 32, 33, 64, 1000, Edges.MOST};

    /** Two PLACES with a path, a third without; a plain, a slow, a mute one who wake at 0 in a, a plain one who wakes at 2. */
    private static final String SMALL = "place a;place b;place c;path a b;person h plain in a wakes 0;person i slow in a wakes 0;"
            + "person j mute in a wakes 0;person k plain in a wakes 2;thing t worth 5 of h;thing u worth 6 of i;thing v worth 7 of k;smoke 4;";

    private static void of(int promise, String words) {
        Edges.of(promise, words);
    }

    private static void due(String what, long want, long got) {
        Edges.due(what, want, got);
    }

    private static void due(String what, boolean want, boolean got) {
        Edges.due(what, want, got);
    }

    private static void places() {
        of(5, "NONE: others.");
        FirstChimney x = Edges.told(Edges.FULL);
        int[] paths = {126, 5, 11, 21, 41, 17, 1};
        for (int place = 0; place <= 6; place++) {
            due("paths of " + place, paths[place], x.place(place, 0));
            due("what -1 of " + place, NONE, x.place(place, -1));
            due("what 3 of " + place, NONE, x.place(place, 3));
        }
        for (int place : FAR_OFF) {
            for (int what = -1; what <= 3; what++) {
                due("PLACE " + place + " what " + what, NONE, x.place(place, what));
            }
        }
        for (int what : new int[] {Edges.LEAST, -2, 4, 32, Edges.MOST}) {
            due("what " + what, NONE, x.place(0, what));
        }
        FirstChimney few = Edges.told("place a;place b;");
        due("the last told", 0, few.place(1, 0));
        due("one more", NONE, few.place(2, 0));
        of(5, "1: who is there, as bits, 2: who of these is AWAKE, as bits");
        due("who sleeps, too", 11, x.place(0, 1));
        due("AWAKE", 3, x.place(0, 2));
        due("nobody", 0, x.place(2, 1));
        due("nobody AWAKE", 0, x.place(6, 2));
        Edges.minutes(x, 29);
        due("minute 29", 0, x.place(6, 2));
        x.minute();
        due("minute 30", 16, x.place(6, 2));
        due("all at one", 31, Edges.told("place a;" + Edges.people(5, "mute", 0)).place(0, 2));
        Edges.leaves("place", y -> y.place(7, 0));
    }

    private static void persons() {
        of(6, "NONE: others.");
        FirstChimney x = Edges.told(Edges.FULL);
        for (int person : FAR_OFF) {
            for (int what = -1; what <= 6; what++) {
                due("PERSON " + person + " what " + what, NONE, x.person(person, what));
            }
        }
        for (int person = 0; person <= 4; person++) {
            due("KIND of " + person, person == 4 ? 0 : person, x.person(person, 0));
            due("what -1 of " + person, NONE, x.person(person, -1));
            due("what 6 of " + person, NONE, x.person(person, 6));
        }
        due("PERSON 5", NONE, x.person(5, 0));
        for (int what : new int[] {Edges.LEAST, -2, 7, 32, Edges.MOST}) {
            due("what " + what, NONE, x.person(0, what));
        }
        FirstChimney two = Edges.told("place a;" + Edges.people(2, "plain", 0));
        due("the last told", 0, two.person(1, 0));
        due("one more", NONE, two.person(2, 0));
        of(6, "3: 1 AWAKE, 4: 1 READY");
        for (int minute = 0; minute <= 30; minute++) {
            due("k AWAKE in " + minute, minute >= 1 ? 1 : 0, x.person(3, 3));
            due("k READY in " + minute, minute >= 1 ? 1 : 0, x.person(3, 4));
            due("l AWAKE in " + minute, minute >= 30 ? 1 : 0, x.person(4, 3));
            due("l READY in " + minute, minute >= 30 ? 1 : 0, x.person(4, 4));
            x.minute();
        }
        of(6, "5: THINGS with them, as bits");
        FirstChimney all = Edges.told("place a;" + Edges.people(2, "plain", 0)
                + "thing m worth 0 of h;thing n worth 0 of h;thing o worth 0 of h;thing p worth 0 of h;thing q worth 0 of h;thing r worth 0 of h;");
        due("all", 63, all.person(0, 5));
        due("none", 0, all.person(1, 5));
        all.give(5, 1);
        due("all but one", 31, all.person(0, 5));
        due("one", 32, all.person(1, 5));
        of(6, "A PERSON is AWAKE from the minute on that wakes tells.");
        FirstChimney never = Edges.told("place a;person h plain in a wakes 30;person i plain in a wakes 29;");
        Edges.minutes(never, 28);
        due("28, wakes 29", 0, never.person(1, 3));
        never.minute();
        due("29, wakes 29", 1, never.person(1, 3));
        due("29, wakes 30", 0, never.person(0, 3));
        due("SMOKE", true, never.minute());
        due("the next morning", 0, never.person(1, 3) + never.person(0, 3));
    }

    private static void things() {
        of(7, "NONE: others.");
        FirstChimney x = Edges.told(Edges.FULL);
        for (int thing : FAR_OFF) {
            for (int what = -1; what <= 3; what++) {
                due("THING " + thing + " what " + what, NONE, x.thing(thing, what));
            }
        }
        due("THING 6", NONE, x.thing(6, 0));
        for (int thing = 0; thing <= 5; thing++) {
            due("worth of " + thing, new int[] {0, 30, 1, 2, 3, 4}[thing], x.thing(thing, 0));
            due("with, of " + thing, Math.max(0, thing - 1), x.thing(thing, 1));
            due("right, of " + thing, Math.max(0, thing - 1), x.thing(thing, 2));
            due("what -1 of " + thing, NONE, x.thing(thing, -1));
            due("what 3 of " + thing, NONE, x.thing(thing, 3));
        }
        for (int what : new int[] {Edges.LEAST, -2, 4, 32, Edges.MOST}) {
            due("what " + what, NONE, x.thing(0, what));
        }
        FirstChimney one = Edges.told("place a;person h plain in a wakes 0;thing t worth 9 of h;");
        due("the last told", 9, one.thing(0, 0));
        due("one more", NONE, one.thing(1, 0));
    }

    private static void walks() {
        of(8, "WALK: true; false: others, it can't be.");
        for (int number : FAR_OFF) {
            Edges.leaves("walk of PERSON " + number, x -> due("walk of PERSON " + number, false, x.walk(number, 1)));
            Edges.leaves("walk to PLACE " + number, x -> due("walk to PLACE " + number, false, x.walk(3, number)));
        }
        Edges.leaves("walk of PERSON 5", x -> due("walk of PERSON 5", false, x.walk(5, 1)));
        due("to the last PLACE", true, Edges.busy().walk(3, 6));
        due("by the last PERSON", true, lastWalks());
        of(8, "WALK: one who is READY goes by a path to the PLACE at its other end; they have ACTED; a slow one in the next minute, too.");
        Edges.leaves("walk where one is", x -> due("walk where one is", false, x.walk(3, 0)));
        Edges.leaves("walk after a vow", x -> due("walk after a vow", false, x.walk(0, 1)));
        Edges.leaves("walk of a slow one", x -> due("walk of a slow one in the next minute", false, x.walk(2, 1)));
        Edges.leaves("walk asleep", x -> due("walk asleep", false, x.walk(4, 0)));
        FirstChimney x = Edges.told(SMALL);
        due("no path", false, x.walk(0, 2));
        due("one who sleeps", false, x.walk(3, 1));
        due("a walk", true, x.walk(0, 1));
        due("who WALKED", false, x.walk(0, 0));
        due("a slow one", true, x.walk(1, 1));
        due("a mute one", true, x.walk(2, 1));
        due("where", 1, x.person(0, 2));
        due("HOUSE", 0, x.person(0, 1));
        x.minute();
        due("the next minute", true, x.walk(0, 0));
        due("a slow one in it", false, x.walk(1, 0));
        due("one asleep a minute ahead", false, x.walk(3, 1));
        due("a slow one is not READY", 0, x.person(1, 4));
        x.minute();
        due("a slow one in the one behind", true, x.walk(1, 0));
        due("the minute of waking", true, x.walk(3, 1));
        x.minute();
        due("a plain one in the last minute", true, x.walk(3, 0));
        due("a slow one in the next", false, x.walk(1, 1));
        due("SMOKE", true, x.minute());
        due("nobody has ACTED", true, x.walk(1, 1));
        FirstChimney last = Edges.told(SMALL);
        Edges.minutes(last, 3);
        due("a slow one in the last minute", true, last.walk(1, 1));
        due("SMOKE", true, last.minute());
        due("a slow one after SMOKE is READY", 1, last.person(1, 4));
        due("a slow one after SMOKE", true, last.walk(1, 1));
        FirstChimney gave = Edges.told(SMALL);
        due("a slow one gives", 0, gave.give(1, 0));
        due("who gave", false, gave.walk(1, 1));
        due("to whom was given", true, gave.walk(0, 1));
        gave.minute();
        due("a slow one who gave, in the next minute", true, gave.walk(1, 1));
        FirstChimney vowed = Edges.told(SMALL);
        due("a slow one vows", 0, vowed.vow(1, 0));
        due("who vowed", false, vowed.walk(0, 1));
        due("a slow one who vowed", false, vowed.walk(1, 1));
        vowed.minute();
        due("a slow one who vowed, in the next minute", true, vowed.walk(1, 1));
    }

    private static boolean lastWalks() {
        FirstChimney x = Edges.told(Edges.FULL);
        Edges.minutes(x, 30);
        return x.walk(4, 0);
    }

    private static void gifts() {
        of(9, "GIVE: 1 it BINDS, 0 it does not; NONE: others, it can't be.");
        for (int number : FAR_OFF) {
            Edges.leaves("give of THING " + number, x -> due("give of THING " + number, NONE, x.give(number, 0)));
            Edges.leaves("give to PERSON " + number, x -> due("give to PERSON " + number, NONE, x.give(4, number)));
        }
        Edges.leaves("give of THING 6", x -> due("give of THING 6", NONE, x.give(6, 0)));
        Edges.leaves("give to PERSON 5", x -> due("give to PERSON 5", NONE, x.give(4, 5)));
        of(9, "GIVE: a THING whose HOLDER is READY goes to another one who is AWAKE at the same PLACE; the HOLDER has ACTED.");
        Edges.leaves("give to oneself", x -> due("give to oneself", NONE, x.give(4, 3)));
        Edges.leaves("give after a vow", x -> due("give after a vow", NONE, x.give(1, 3)));
        Edges.leaves("give of a slow one", x -> due("give of a slow one in the next minute", NONE, x.give(3, 0)));
        Edges.leaves("give to one asleep", x -> due("give to one asleep elsewhere", NONE, x.give(4, 4)));
        Edges.leaves("give asleep", x -> due("give asleep", NONE, x.give(5, 0)));
        due("by a mute one, by the Bench", 1, Edges.busy().give(4, 0));
        due("to the Bench itself", 0, Edges.busy().give(4, 1));
        due("to one who is not READY", 1, Edges.busy().give(4, 2));
        FirstChimney x = Edges.told(SMALL);
        due("to one asleep here", NONE, x.give(0, 3));
        due("by one asleep here", NONE, x.give(2, 0));
        due("a gift", 0, x.give(0, 1));
        due("with", 1, x.thing(0, 1));
        due("by right", 0, x.thing(0, 2));
        due("the other one is READY", 1, x.person(1, 4));
        due("the other one gives it on", 0, x.give(0, 2));
        due("to one who has ACTED", 0, x.give(0, 0));
        due("once more", NONE, x.give(0, 2));
        x.minute();
        due("in minute 1 to who wakes in 2", NONE, x.give(0, 3));
        x.minute();
        due("in minute 2", 0, x.give(0, 3));
        due("by who has just woken", 0, x.give(2, 0));
        due("the one given to can't now", NONE, x.give(0, 0));
        x.minute();
        x.walk(0, 1);
        due("apart", NONE, x.give(0, 0));
        due("SMOKE", true, x.minute());
        due("with those by right", 0, x.thing(0, 1));
        of(9, "then the THING is that one's by right, too");
        FirstChimney bound = Edges.told(SMALL + "binds clock = 1;");
        due("minute 0", 0, bound.give(0, 1));
        due("not by right", 0, bound.thing(0, 2));
        bound.minute();
        due("minute 1", 1, bound.give(0, 2));
        due("by right", 2, bound.thing(0, 2));
        due("with", 2, bound.thing(0, 1));
        bound.minute();
        due("minute 2", 0, bound.give(0, 0));
        due("by right still", 2, bound.thing(0, 2));
        of(9, "GIVE and VOW BIND if the E of binds, as it was ahead of that, is not 0");
        FirstChimney crowd = Edges.told("place a;" + Edges.people(3, "plain", 0) + "thing t worth 3 of h;thing u worth 4 of h;binds crowd = 1 and price = 3;");
        due("ahead of it", 1, crowd.give(0, 1));
        due("negative is not 0", 1, Edges.told("place a;" + Edges.people(2, "plain", 0) + "thing t worth 3 of h;binds 0 - 1;").give(0, 1));
    }

    private static void vowing() {
        of(10, "VOW: 1 it BINDS, 0 it does not; NONE: others, it can't be.");
        for (int number : FAR_OFF) {
            Edges.leaves("vow of PERSON " + number, x -> due("vow of PERSON " + number, NONE, x.vow(number, 3)));
            Edges.leaves("vow with PERSON " + number, x -> due("vow with PERSON " + number, NONE, x.vow(3, number)));
        }
        Edges.leaves("vow of PERSON 5", x -> due("vow of PERSON 5", NONE, x.vow(5, 3)));
        Edges.leaves("vow with PERSON 5", x -> due("vow with PERSON 5", NONE, x.vow(3, 5)));
        of(10, "VOW: two who are READY, at the same PLACE, not mute, not vowed to each other, vow to each other; both have ACTED.");
        Edges.leaves("vow with oneself", x -> due("vow with oneself", NONE, x.vow(3, 3)));
        Edges.leaves("vow of those who have ACTED", x -> due("vow again", NONE, x.vow(1, 0)));
        Edges.leaves("vow of a mute one", x -> due("vow of a mute one", NONE, x.vow(3, 0)));
        FirstChimney x = Edges.told(SMALL);
        due("with a mute one", NONE, x.vow(0, 2));
        due("of a mute one", NONE, x.vow(2, 0));
        due("with one asleep", NONE, x.vow(0, 3));
        due("of one asleep", NONE, x.vow(3, 0));
        x.give(0, 1);
        due("the first has ACTED", NONE, x.vow(0, 1));
        due("the other one has ACTED", NONE, x.vow(1, 0));
        x.minute();
        due("a vow", 0, x.vow(1, 0));
        due("both have ACTED", 0, x.person(0, 4) + x.person(1, 4));
        x.minute();
        due("vowed to each other", NONE, x.vow(1, 0));
        due("from the other one", NONE, x.vow(0, 1));
        due("with who wakes in this minute", 0, x.vow(3, 0));
        due("two vows", 2, x.count(8));
        x.minute();
        x.walk(0, 1);
        due("apart, nor READY", NONE, x.vow(0, 3));
        due("slow and plain", 0, x.vow(1, 3));
        due("three vows", 3, x.count(8));
        due("none by right", 0, x.count(9));
        due("SMOKE", true, x.minute());
        due("no vows", 0, x.count(8));
        due("a vow anew", 0, x.vow(0, 1));
        FirstChimney apart = Edges.told("place a;place b;path a b;person h plain in a wakes 0;person i plain in b wakes 0;");
        due("apart and READY", NONE, apart.vow(0, 1));
        of(10, "the vow holds by right");
        FirstChimney right = Edges.told("place a;" + Edges.people(5, "plain", 0) + "smoke 10;binds clock < 5;");
        int vows = 0;
        // Ten pairs of five, two in each minute: by the fifth minute all have vowed to all.
        for (int minute = 0; minute < 5; minute++) {
            for (int one = 0; one < 5; one++) {
                int other = (minute - one + 5) % 5;
                if (one < other) {
                    due("vow of " + one + " and " + other, 1, right.vow(one, other));
                    vows++;
                    due("vows", vows, right.count(8));
                    due("vows by right", vows, right.count(9));
                }
            }
            due("no SMOKE", false, right.minute());
        }
        for (int one = 0; one < 5; one++) {
            due("all but oneself", 31 & ~(1 << one), right.vows(one, false));
            due("all but oneself by right", 31 & ~(1 << one), right.vows(one, true));
            for (int other = 0; other < 5; other++) {
                due("an eleventh", NONE, right.vow(one, other));
            }
        }
        Edges.minutes(right, 5);
        due("the next morning", 1, right.count(5));
        due("ten vows", 10, right.count(8));
        due("they hold", NONE, right.vow(0, 1));
    }

    private static void minute() {
        of(11, "If that is the one that smoke tells: SMOKE");
        for (int smoke : new int[] {1, 2, 30, 59, 60}) {
            FirstChimney x = Edges.told("smoke " + smoke + ";");
            for (int minute = 1; minute <= 2 * smoke + 1; minute++) {
                due("smoke " + smoke + ", " + minute, minute % smoke == 0, x.minute());
                due("smoke " + smoke + ", the minute", minute % smoke, x.count(6));
                due("smoke " + smoke + ", the morning", minute / smoke, x.count(5));
            }
        }
        of(11, "all who are AWAKE and at one PLACE have HEARD what any of them has");
        FirstChimney x = Edges.told("place a;place b;path a b;person h plain in a wakes 0;person i plain in a wakes 1;person j plain in b wakes 0;smoke 9;");
        x.minute();
        due("h", 1, x.heard(0));
        due("i slept in minute 0", 2, x.heard(1));
        x.minute();
        due("h of i, who was AWAKE in 1", 3, x.heard(0));
        due("i of h", 3, x.heard(1));
        due("j at another PLACE", 4, x.heard(2));
        x.walk(0, 1);
        x.minute();
        due("j hears of i by h", 7, x.heard(2));
        due("h", 7, x.heard(0));
        due("i", 3, x.heard(1));
        of(11, "nobody has ACTED (but a slow one who WALKED in the minute that ends has, in the one that begins, too)");
        FirstChimney slow = Edges.told(SMALL);
        slow.walk(1, 1);
        slow.vow(0, 3);
        slow.give(0, 2);
        slow.minute();
        due("h", 1, slow.person(0, 4));
        due("i, slow, WALKED", 0, slow.person(1, 4));
        slow.minute();
        due("a minute later", 1, slow.person(1, 4));
        of(11, "SMOKE: each THING is with those whose it is by right, there are no vows but those by right, all are in their HOUSES, nobody has ACTED, it is minute 0 of the next morning.");
        FirstChimney smoke = Edges.told(SMALL + "binds (clock = 0 and price = 5) or (clock = 1 and price = 0);");
        due("BINDS", 1, smoke.give(0, 1));
        due("does not", 0, smoke.give(1, 2));
        smoke.minute();
        due("a vow BINDS", 1, smoke.vow(0, 1));
        smoke.minute();
        due("a vow does not", 0, smoke.vow(0, 3));
        smoke.walk(1, 1);
        smoke.walk(2, 1);
        smoke.minute();
        smoke.walk(0, 1);
        smoke.see(0, 0, true);
        due("ahead of it: goes back", 2, smoke.back());
        due("ahead of it: vows", 2, smoke.count(8));
        due("SMOKE", true, smoke.minute());
        due("t stays", 1, smoke.thing(0, 1));
        due("u is back", 1, smoke.thing(1, 1));
        due("goes back", 0, smoke.back());
        due("vows", 1, smoke.count(8));
        due("by right", 1, smoke.count(9));
        due("whose", 2, smoke.vows(0, false));
        due("all in their HOUSES", 15, smoke.place(0, 1));
        for (int person = 0; person < 3; person++) {
            due("READY " + person, 1, smoke.person(person, 4));
        }
        due("k sleeps", 0, smoke.person(3, 3));
        due("minute", 0, smoke.count(6));
        due("morning", 1, smoke.count(5));
        due("what is HEARD stays", 15, smoke.heard(0));
        due("SEEN stays", 1, smoke.count(11));
        due("deeds can be undone", 11, smoke.count(12));
    }

    private static void undone() {
        of(12, "UNDO: true; false: nothing can be.");
        FirstChimney back = Edges.busy();
        due("gone back to a MARK", true, back.mark(3, true));
        String marked = Edges.view(back);
        due("nothing there", false, back.undo());
        Edges.due("all as it was on it", marked, Edges.view(back));
        FirstChimney x = Edges.told(SMALL);
        String begin = Edges.view(x);
        due("nothing yet", false, x.undo());
        Edges.due("all as it was", begin, Edges.view(x));
        due("a refused walk", false, x.walk(0, 2));
        due("a refused gift", NONE, x.give(0, 0));
        due("a refused vow", NONE, x.vow(0, 0));
        due("they can't be undone", 0, x.count(12));
        due("nor so", false, x.undo());
        of(12, "UNDO: all of these, the last 16, one by one.");
        for (int deeds = 0; deeds <= 18; deeds++) {
            FirstChimney y = Edges.told("smoke 60;");
            Edges.minutes(y, deeds);
            int kept = Math.min(16, deeds);
            due(deeds + " deeds", kept, y.count(12));
            for (int i = 1; i <= kept; i++) {
                due(deeds + " deeds, undo " + i, true, y.undo());
                due(deeds + " deeds, the minute", deeds - i, y.count(6));
                due(deeds + " deeds, left", kept - i, y.count(12));
            }
            due(deeds + " deeds, one more", false, y.undo());
            due(deeds + " deeds, at last", deeds - kept, y.count(6));
        }
        FirstChimney again = Edges.told("smoke 60;");
        Edges.minutes(again, 16);
        for (int i = 0; i < 10; i++) {
            again.undo();
        }
        Edges.minutes(again, 12);
        due("sixteen again", 16, again.count(12));
        for (int i = 0; i < 16; i++) {
            due("undo", true, again.undo());
        }
        due("no more", false, again.undo());
        due("minute 2", 2, again.count(6));
        undoneEach();
        FirstChimney aside = Edges.told(SMALL);
        aside.minute();
        aside.see(0, 0, true);
        aside.mark(1, false);
        Edges.morning(aside, "minute;");
        Edges.feed(aside, "tea");
        due("undo", true, aside.undo());
        due("SEEN stays", 1, aside.count(11));
        due("the MORNING stays", 1, aside.count(10));
        due("the TAPE stays", 3, aside.count(13));
        due("the MARK stays", true, aside.mark(1, true));
        due("minute 1", 1, aside.count(6));
    }

    private static void undoneEach() {
        for (int left = 0; left <= 9; left++) {
            FirstChimney ahead = Edges.told(SMALL + "binds clock = 0;");
            deeds(ahead, left);
            FirstChimney x = Edges.told(SMALL + "binds clock = 0;");
            deeds(x, 9);
            for (int deed = 8; deed >= left; deed--) {
                due("undo of deed " + deed, true, x.undo());
                due("deeds left", deed, x.count(12));
            }
            Edges.due("as ahead of deed " + left, Edges.view(ahead), Edges.view(x));
        }
    }

    /** The first so many of nine deeds, one of each kind among them. */
    private static void deeds(FirstChimney x, int number) {
        for (int deed = 0; deed < number; deed++) {
            switch (deed) {
                case 0: due("a walk", true, x.walk(2, 1)); break;
                case 1: due("a vow that BINDS", 1, x.vow(1, 0)); break;
                case 3: due("a gift", 0, x.give(0, 1)); break;
                case 5: due("a slow one's walk", true, x.walk(1, 1)); break;
                case 8: due("a gift that BINDS", 1, x.give(1, 2)); break;
                default: due("SMOKE by deed " + deed, deed == 7, x.minute());
            }
        }
    }

    /** How all is, without the number of what can be undone. */
    private static String state(FirstChimney x) {
        String view = Edges.view(x);
        String[] counts = view.substring(0, view.indexOf(' ')).split(",");
        counts[12] = "";
        return String.join(",", counts) + view.substring(view.indexOf(' '));
    }

    private static void judged() {
        of(13, "JUDGED, what 0, 1: lines (NONE: none), 2: how many; -2: others.");
        FirstChimney x = Edges.busy();
        for (int what : new int[] {Edges.LEAST, -2, -1, 3, 4, 32, Edges.MOST}) {
            due("what " + what, -2, x.judged(what));
            due("what " + what + " of nothing", -2, new FirstChimney().judged(what));
        }
        Edges.leaves("judged", y -> y.judged(0));
        FirstChimney none = Edges.told(Edges.FULL);
        due("nothing told, 0", NONE, none.judged(0));
        due("nothing told, 1", NONE, none.judged(1));
        due("nothing told, 2", 0, none.judged(2));
        of(13, "the first line (from 0) that can't be (lines that can't be are left out; a minute always can)");
        String bench = "place a;place b;path a b;" + Edges.people(5, "bench", 0) + "thing m worth 0 of h;thing n worth 1 of h;thing o worth 2 of h;"
                + "thing p worth 3 of h;thing q worth 4 of h;thing r worth 5 of h;smoke 60;binds price = 5 or clock = 38;";
        FirstChimney y = Edges.told(bench);
        for (int ahead : new int[] {0, 1, 38, 39}) {
            due("can't be, line " + ahead, 0, Edges.morning(y, Edges.repeated("minute;", ahead) + "give m h;"));
            due("line " + ahead, ahead, y.judged(0));
            due("nothing BINDS", NONE, y.judged(1));
            due("nothing moved", 0, y.judged(2));
        }
        due("40 minutes", 0, Edges.morning(y, Edges.repeated("minute;", 40)));
        due("can be", NONE, y.judged(0));
        due("over many SMOKES", 0, Edges.land(y, bench.replace("smoke 60", "smoke 1")));
        due("40 minutes", 0, Edges.morning(y, Edges.repeated("minute;", 40)));
        due("can be", NONE, y.judged(0));
        Edges.land(y, bench);
        due("walks", 0, Edges.morning(y, "walk h b;walk h a;minute;walk h a;give m i;give m i;minute;give m i;"));
        due("the first of two", 1, y.judged(0));
        due("left out, the rest is", 1, y.judged(2));
        of(13, "the first line by which something BINDS");
        due("told", 0, Edges.morning(y, "give r i;give q i;"));
        due("a gift, line 0", 0, y.judged(1));
        due("told", 0, Edges.morning(y, "give r h;give m i;minute;give r i;"));
        due("not one that can't be", 3, y.judged(1));
        due("the one that can't be", 0, y.judged(0));
        due("told", 0, Edges.morning(y, Edges.repeated("minute;", 38) + "walk h b;vow i j;"));
        due("a vow, line 39", 39, y.judged(1));
        due("all can be", NONE, y.judged(0));
        due("told", 0, Edges.morning(y, "walk h b;minute;vow i j;"));
        due("none", NONE, y.judged(1));
        due("told", 0, Edges.morning(y, "vow i j;minute;vow i j;vow j k;"));
        due("vowed already", 2, y.judged(0));
        due("a vow that does not BIND can be", NONE, y.judged(1));
        due("told", 0, Edges.morning(y, "vow i j;vow h l;give m i;vow k l;"));
        due("those who vowed have ACTED", 2, y.judged(0));
        due("told", 0, Edges.morning(y, "vow i j;vow h l;minute;walk i b;minute;walk i a;"));
        due("all can be", NONE, y.judged(0));
        due("told", 0, Edges.morning(y, "walk i b;vow i h;minute;vow i h;walk i b;"));
        due("who WALKED has ACTED", 1, y.judged(0));
        due("told", 0, Edges.morning(y, "walk i b;minute;vow i h;"));
        due("who WALKED is not there", 2, y.judged(0));
        of(13, "how many THINGS are with others at last than at the begin.");
        String six = "give m i;minute;give n i;minute;give o i;minute;give p i;minute;give q i;minute;give r i;";
        due("told", 0, Edges.morning(y, six));
        due("all six", 6, y.judged(2));
        due("told", 0, Edges.morning(y, six + "give m h;minute;give n h;"));
        due("some go to and fro", 4, y.judged(2));
        due("told", 0, Edges.morning(y, six + "give m j;"));
        due("on to another one", 6, y.judged(2));
        Edges.land(y, bench.replace("smoke 60", "smoke 12"));
        due("told", 0, Edges.morning(y, six + Edges.repeated("minute;", 7)));
        due("what BINDS does not go back", 1, y.judged(2));
        due("line", 10, y.judged(1));
        of(13, "JUDGED: the MORNING from the begin");
        FirstChimney now = Edges.told(SMALL);
        Edges.morning(now, "give t i;walk h b;minute;give t j;");
        now.walk(0, 1);
        now.minute();
        now.walk(0, 0);
        now.give(1, 2);
        due("as from minute 0, can't be", 1, now.judged(0));
        due("as from minute 0, moved", 1, now.judged(2));
        now.minute();
        due("as ever", 1, now.judged(0));
    }

    private static void marks() {
        of(43, "A MARK is laid (back: gone back to): true; false: none such, nothing is on it (back).");
        for (int mark : new int[] {Edges.LEAST, -2, -1, 4, 5, 32, Edges.MOST}) {
            Edges.leaves("MARK " + mark, x -> due("MARK " + mark, false, x.mark(mark, false) || x.mark(mark, true)));
        }
        Edges.leaves("an empty MARK", x -> due("an empty MARK", false, x.mark(1, true) || x.mark(2, true)));
        FirstChimney x = Edges.told(SMALL);
        for (int mark = 0; mark <= 3; mark++) {
            due("nothing on " + mark, false, x.mark(mark, true));
        }
        for (int mark = 0; mark <= 3; mark++) {
            due("laid " + mark, true, x.mark(mark, false));
            x.minute();
        }
        for (int mark = 3; mark >= 0; mark--) {
            due("back to " + mark, true, x.mark(mark, true));
            due("minute of " + mark, mark, x.count(6));
            due("morning of " + mark, 0, x.count(5));
        }
        for (int mark = 0; mark <= 3; mark++) {
            due("back again to " + mark, true, x.mark(mark, true));
            due("minute again of " + mark, mark, x.count(6));
        }
        due("laid over", true, x.mark(0, false));
        x.minute();
        due("back to 0", true, x.mark(0, true));
        due("minute 3 now", 3, x.count(6));
        due("back to 1", true, x.mark(1, true));
        due("minute 1 still", 1, x.count(6));
        of(43, "MARKS 0 to 3 hold all that UNDO brings back, what is SEEN (nothing can be undone when one is gone back to).");
        FirstChimney y = Edges.told(SMALL + "binds clock = 0;");
        due("a gift", 1, y.give(0, 2));
        due("no vow by who has ACTED", NONE, y.vow(1, 0));
        due("a walk", true, y.walk(1, 1));
        for (int i = 0; i < 8; i++) {
            due("SEEN " + i, true, y.see(0, i, i == 0));
        }
        String held = state(y);
        due("laid", true, y.mark(2, false));
        due("two can be undone still", 2, y.count(12));
        Edges.minutes(y, 17);
        due("later", false, held.equals(state(y)));
        due("sixteen can be undone", 16, y.count(12));
        due("gone back to", true, y.mark(2, true));
        Edges.due("all as it was", held, state(y));
        due("eight SEEN", 8, y.count(11));
        due("no ninth", false, y.see(0, 0, true));
        due("nothing can be undone", 0, y.count(12));
        due("undo", false, y.undo());
        y.minute();
        due("what comes then can", 1, y.count(12));
        due("undo of it", true, y.undo());
        Edges.due("as on the MARK", held, state(y));
        due("no more", false, y.undo());
        FirstChimney few = Edges.told(SMALL);
        few.mark(0, false);
        few.see(0, 0, true);
        few.mark(1, false);
        Edges.morning(few, "minute;");
        Edges.feed(few, "tea");
        due("back to nothing SEEN", true, few.mark(0, true));
        due("nothing SEEN", 0, few.count(11));
        due("the MORNING is not held", 1, few.count(10));
        due("nor the TAPE", 3, few.count(13));
        due("back to one SEEN", true, few.mark(1, true));
        due("one SEEN", 1, few.count(11));
        due("laid is not undone", false, few.undo());
        FirstChimney other = Edges.told(SMALL);
        other.mark(3, false);
        // At b: h by 1, i by 2, j by 1, k by 3.
        other.see(1, 1, false);
        other.see(1, 2, true);
        other.mark(0, false);
        due("by what is SEEN", 2, other.who());
        due("back to nothing SEEN", true, other.mark(3, true));
        other.see(0, 0, true);
        other.see(2, 99, false);
        other.mark(1, false);
        due("by other SEEN", 15, other.who());
        due("back to the first", true, other.mark(0, true));
        due("by what was SEEN", 2, other.who());
        due("back to the other", true, other.mark(1, true));
        due("by what was SEEN then", 15, other.who());
    }

    private static void counts() {
        of(44, "NONE for another what.");
        FirstChimney x = Edges.told(Edges.FULL);
        for (int what : new int[] {Edges.LEAST, -2, -1, 14, 15, 32, Edges.MOST}) {
            due("what " + what, NONE, x.count(what));
            due("what " + what + " of nothing", NONE, new FirstChimney().count(what));
        }
        int[] first = {7, 10, 5, 6, 60, 0, 0, 7, 0, 0, 0, 0, 0, 0};
        for (int what = 0; what <= 13; what++) {
            due("what " + what + " of FULL", first[what], x.count(what));
        }
        of(44, "5: the morning, 6: the minute, 7: who is AWAKE, as bits, 8: how many vows there are, 9: how many by right, 10: lines of the MORNING, 11: SEEN, 12: what can be undone, 13: signs on the TAPE.");
        Edges.morning(x, Edges.repeated("minute;", 40));
        for (int i = 0; i < 9; i++) {
            x.see(6, 99, true);
        }
        Edges.minutes(x, 29);
        due("AWAKE in 29", 15, x.count(7));
        x.minute();
        due("AWAKE in 30", 31, x.count(7));
        Edges.minutes(x, 29);
        x.vow(0, 1);
        Edges.feed(x, Edges.repeated("a", 1008));
        int[] last = {7, 10, 5, 6, 60, 0, 59, 31, 1, 0, 40, 8, 16, 1000};
        for (int what = 0; what <= 13; what++) {
            due("what " + what + " at last", last[what], x.count(what));
        }
        x.minute();
        due("the next morning", 1, x.count(5));
        due("minute 0 of it", 0, x.count(6));
        due("AWAKE in it", 7, x.count(7));
        due("vows in it", 0, x.count(8));
        due("undone at most", 16, x.count(12));
        Edges.leaves("count", y -> y.count(14));
    }

    public static void main(String[] args) {
        places();
        persons();
        things();
        walks();
        gifts();
        vowing();
        minute();
        undone();
        judged();
        marks();
        counts();
        Edges.end();
    }
}
