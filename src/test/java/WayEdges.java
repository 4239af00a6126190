import java.util.function.ToLongFunction;

/** What post needs, where it goes and by when: the terms of these, and promises 11 to 23. */
final class WayEdges {
    private static final int MIN = Integer.MIN_VALUE;
    private static final int MAX = Integer.MAX_VALUE;
    private static final int LETTER = Lands.LETTER;
    private static final int QUICK = Lands.QUICK;
    private static final int HEAVY = Lands.HEAVY;
    private static final int FEATHER = Lands.FEATHER;
    private static final int BILL = Lands.BILL;
    private static final int SECRET = Lands.SECRET;
    private static final int[] NO_KIND = {MIN, -1, 6, 7, 32, MAX};
    private static final int[] NO_SUCH = {MIN, -1, 6, 12, 32, MAX};

    private final Sentences s;

    WayEdges(Sentences s) {
        this.s = s;
    }

    void all() {
        needsTerms();
        goesTerms();
        balloonTerms();
        earliestTerms();
        promise11();
        promise12();
        promise13();
        promise14();
        promise15();
        promise16();
        promise17();
        promise18();
        promise18Homes();
        promise19();
        promise20();
        promise21();
        promise21Bounds();
        promise22();
        promise23();
    }

    /** Calls of a kind and two villages, each argument beyond its bounds. */
    private interface Asked {
        long of(DownhillPost x, int kind, int from, int to);
    }

    private void beyond(Asked call) {
        for (int kind : NO_KIND) {
            s.refused("kind " + kind, Lands::rich, x -> call.of(x, kind, 0, 4), Due.BEYOND);
        }
        for (int village : NO_SUCH) {
            s.refused("from " + village, Lands::rich, x -> call.of(x, LETTER, village, 4), Due.BEYOND);
        }
        refusedTo(call);
    }

    private void refusedTo(Asked call) {
        for (int village : NO_SUCH) {
            s.refused("to " + village, Lands::rich, x -> call.of(x, LETTER, 0, village), Due.BEYOND);
            s.refused("both " + village, Lands::rich, x -> call.of(x, LETTER, village, village), Due.BEYOND);
        }
    }

    /** Calls of a kind and one village. */
    private interface AskedOfOne {
        long of(DownhillPost x, int kind, int village);
    }

    private void beyondOfOne(AskedOfOne call) {
        for (int kind : NO_KIND) {
            s.refused("kind " + kind, Lands::rich, x -> call.of(x, kind, 0), Due.BEYOND);
        }
        for (int village : NO_SUCH) {
            s.refused("village " + village, Lands::rich, x -> call.of(x, LETTER, village), Due.BEYOND);
        }
    }

    private void none(String what, ToLongFunction<DownhillPost> call) {
        s.refused(what, Lands::rich, call, Due.NONE);
    }

    /** Roads of 1 to 9 days, all from village 0. */
    private static DownhillPost nineRoads() {
        DownhillPost x = Lands.heights(9, 8, 8, 8, 8, 8, 8, 8, 8, 8);
        for (int days = 1; days <= 9; days++) {
            x.road(0, days, days);
        }
        return x;
    }

    private void needs(String sentence, int kind, int... want) {
        s.terms(sentence);
        DownhillPost x = nineRoads();
        for (int days = 1; days <= 9; days++) {
            s.due("a road of " + days, x.needs(kind, days - 1), want[days - 1]);
            s.due("on a road of " + days, x.least(kind, 0, days), want[days - 1]);
        }
    }

    private void needsTerms() {
        needs("NEEDS for a ROAD: LETTER: its DAYS.", LETTER, 1, 2, 3, 4, 5, 6, 7, 8, 9);
        needs("QUICK: half of these, rounded up.", QUICK, 1, 1, 2, 2, 3, 3, 4, 4, 5);
        needs("HEAVY: twice as LETTER.", HEAVY, 2, 4, 6, 8, 10, 12, 14, 16, 18);
        needs("FEATHER: as LETTER, and 1.", FEATHER, 2, 3, 4, 5, 6, 7, 8, 9, 10);
        needs("BILL: as HEAVY.", BILL, 2, 4, 6, 8, 10, 12, 14, 16, 18);
        needs("SECRET: as FEATHER.", SECRET, 2, 3, 4, 5, 6, 7, 8, 9, 10);
    }

    /** Road 0 a step of 1 down, 1 on the level, 2 a step of 1 up, 3 from the highest there may be to the lowest. */
    private static DownhillPost steps() {
        DownhillPost x = Lands.heights(5, 4, 4, 5, 9999, 0);
        x.road(0, 1, 1);
        x.road(1, 2, 1);
        x.road(2, 3, 1);
        x.road(4, 5, 1);
        return x;
    }

    private void goesDown(int kind, int onTheLevel) {
        DownhillPost x = steps();
        s.due("1 down", x.goes(kind, 0, false), 1);
        s.due("1 up, back", x.goes(kind, 0, true), 0);
        s.due("on the level", x.goes(kind, 1, false), onTheLevel);
        s.due("on the level, back", x.goes(kind, 1, true), onTheLevel);
        s.due("1 up", x.goes(kind, 2, false), 0);
        s.due("1 down, back", x.goes(kind, 2, true), 1);
        s.due("all the way down", x.goes(kind, 3, false), 1);
        s.due("all the way up", x.goes(kind, 3, true), 0);
    }

    private void goesTerms() {
        s.terms("GOES by a ROAD from one VILLAGE to another one: LETTER: if that one's HEIGHT is less.");
        goesDown(LETTER, 0);
        s.terms("FEATHER: if it isn't more.");
        goesDown(FEATHER, 1);
        s.terms("BILL: as HEAVY, but to no HERMIT's.");
        goesDown(BILL, 0);
        DownhillPost x = steps();
        x.hermit(1, true);
        s.due("no bill to a hermit", x.goes(BILL, 0, false), 0);
        s.due("a heavy one", x.goes(HEAVY, 0, false), 1);
        x.hermit(1, false);
        x.hermit(0, true);
        s.due("a bill from a hermit", x.goes(BILL, 0, false), 1);
        s.due("a bill from a hermit arrives", x.least(BILL, 0, 1), 2);
        s.terms("(All others as the KIND above.)");
        goesDown(QUICK, 0);
        goesDown(HEAVY, 0);
        goesDown(SECRET, 1);
        for (int kind : new int[] {LETTER, QUICK, HEAVY, FEATHER, SECRET}) {
            DownhillPost hermits = steps();
            hermits.hermit(1, true);
            s.due("a hermit gets it", hermits.goes(kind, 0, false), 1);
        }
    }

    private void balloonTerms() {
        s.terms("GOES by THE BALLOON: all, but not SECRETS, nor a BILL, if PEAK is a HERMIT's.");
        for (int kind = 0; kind < 6; kind++) {
            DownhillPost x = Lands.heights(9, 0, 5);
            s.due("kind " + kind, x.least(kind, 1, 0), kind == SECRET ? Due.NONE : 1);
            x.hermit(1, true);
            x.hermit(2, true);
            s.due("the sea a hermit's, kind " + kind, x.least(kind, 1, 0), kind == SECRET ? Due.NONE : 1);
            x.hermit(0, true);
            boolean goes = kind != SECRET && kind != BILL;
            s.due("the peak a hermit's, kind " + kind, x.least(kind, 1, 0), goes ? 1 : Due.NONE);
            x.road(0, 2, 1);
            s.due("beyond the peak, kind " + kind, x.reach(kind, 1), goes ? 0b111 : 0b010);
        }
    }

    private void earliestTerms() {
        s.terms("EARLIEST of POST of a KIND from a VILLAGE to another one, from a DAY on: the least DAY on which it"
            + " can be there, by ROADS and THE BALLOON (if it is in SEA on a DAY that EVERY divides, it can go on"
            + " it that DAY; it may wait anywhere).");
        DownhillPost x = Lands.heights(9, 5, 0);
        x.road(1, 2, 3);
        x.day(4);
        s.due("in the sea on 7, up that day", x.least(LETTER, 1, 0), 4);
        x.day(5);
        s.due("in the sea on 8, it waits until 14", x.least(LETTER, 1, 0), 10);
        x.day(0);
        s.due("the flight of 0 is gone by then", x.least(LETTER, 1, 0), 8);
        DownhillPost two = Lands.heights(9, 5, 3, 0);
        two.road(0, 3, 5);
        two.road(0, 1, 2);
        two.road(1, 2, 1);
        two.road(2, 3, 1);
        s.due("by three short roads rather than a long one", two.least(LETTER, 0, 3), 4);
        s.due("by a long one, where each takes one more", two.least(FEATHER, 0, 3), 6);
        DownhillPost by0 = Lands.heights(5, 9, 0);
        by0.road(1, 0, 2);
        by0.road(0, 2, 3);
        s.due("through village 0", by0.least(LETTER, 1, 2), 5);
        s.due("by the balloon rather than a road", Lands.balloonRather().least(LETTER, 1, 2), 3);
        DownhillPost late = Lands.balloonRather();
        late.every(99);
        late.day(1);
        s.due("by a road rather than the balloon", late.least(LETTER, 1, 2), 9);
        late.day(9999);
        s.due("from the last day on", late.least(LETTER, 1, 2), 9);
        DownhillPost far = Lands.heights(9, 5, 0);
        far.every(99);
        far.day(9999);
        s.due("the last day is 101 times 99", far.least(LETTER, 2, 0), 1);

        s.terms("A VILLAGE to itself: that DAY.");
        DownhillPost self = Lands.five();
        self.hermit(2, true);
        self.day(3);
        for (int kind = 0; kind < 6; kind++) {
            for (int village = 0; village < 5; village++) {
                s.due("kind " + kind + " in " + village, self.least(kind, village, village), 0);
            }
        }
    }

    private void promise11() {
        s.promise(11, "What POST of a KIND NEEDS for a ROAD.");
        int[] of3 = {3, 2, 6, 4, 6, 4};
        int[] of2 = {2, 1, 4, 3, 4, 3};
        for (int kind = 0; kind < 6; kind++) {
            int k = kind;
            s.onlyAsks("the first road, kind " + k, Lands::rich, x -> x.needs(k, 0), of3[k]);
            s.onlyAsks("the last road, uphill or not, kind " + k, Lands::rich, x -> x.needs(k, 5), of2[k]);
        }

        s.promise(11, "BEYOND.");
        for (int kind : NO_KIND) {
            s.refused("kind " + kind, Lands::rich, x -> x.needs(kind, 0), Due.BEYOND);
        }
        for (int road : NO_SUCH) {
            s.refused("road " + road, Lands::rich, x -> x.needs(LETTER, road), Due.BEYOND);
        }
        s.due("no roads", Lands.heights(1, 2).needs(LETTER, 0), Due.BEYOND);
        s.due("a 25th", Lands.full().needs(LETTER, 24), Due.BEYOND);
        s.due("the 24th", Lands.full().needs(LETTER, 23), 9);
    }

    private void promise12() {
        s.promise(12, "Whether POST of a KIND GOES by a ROAD, from its first VILLAGE to the other one (back false),"
            + " or back: 1, 0.");
        int[] down = {1, 1, 1, 1, 0, 1};
        for (int kind = 0; kind < 6; kind++) {
            int k = kind;
            s.onlyAsks("down to a hermit, kind " + k, Lands::rich, x -> x.goes(k, 0, false), down[k]);
            s.onlyAsks("back up, kind " + k, Lands::rich, x -> x.goes(k, 0, true), 0);
        }
        DownhillPost up = Lands.heights(1, 2);
        up.road(0, 1, 1);
        s.due("told uphill", up.goes(LETTER, 0, false), 0);
        s.due("told uphill, back", up.goes(LETTER, 0, true), 1);

        s.promise(12, "BEYOND.");
        for (boolean back : new boolean[] {false, true}) {
            for (int kind : NO_KIND) {
                s.refused("kind " + kind, Lands::rich, x -> x.goes(kind, 0, back), Due.BEYOND);
            }
            for (int road : NO_SUCH) {
                s.refused("road " + road, Lands::rich, x -> x.goes(LETTER, road, back), Due.BEYOND);
            }
        }
    }

    private void promise13() {
        s.promise(13, "In how many DAYS from now POST of a KIND comes from a VILLAGE to another one at EARLIEST (0"
            + " to itself).");
        // Day 6, and the balloon goes on each 6th.
        s.onlyAsks("itself", Lands::rich, x -> x.least(SECRET, 1, 1), 0);
        s.onlyAsks("a road", Lands::rich, x -> x.least(LETTER, 5, 4), 2);
        s.onlyAsks("the balloon", Lands::rich, x -> x.least(LETTER, 4, 0), 1);
        s.onlyAsks("a road and the balloon", Lands::rich, x -> x.least(LETTER, 5, 0), 7);
        s.onlyAsks("the balloon and roads", Lands::rich, x -> x.least(LETTER, 4, 3), 10);
        // 180 days down to the sea, 20 until the balloon goes, and up.
        s.due("the longest way", Lands.longWay(0).least(HEAVY, 1, 0), 201);

        s.promise(13, "BEYOND.");
        beyond(DownhillPost::least);

        s.promise(13, "NONE: it can't.");
        none("up", x -> x.least(LETTER, 3, 5));
        none("by no balloon", x -> x.least(SECRET, 4, 0));
        none("to a hermit", x -> x.least(BILL, 0, 1));
        s.due("not on the level", Lands.five().least(LETTER, 1, 2), Due.NONE);
        s.due("apart", Lands.heights(5, 4, 3).least(FEATHER, 0, 1), Due.NONE);
    }

    private void promise14() {
        s.promise(14, "VILLAGES to which POST of a KIND can come from one (itself, too), as a set.");
        s.onlyAsks("itself alone", Lands::rich, x -> x.reach(SECRET, 4), 0b010000);
        s.onlyAsks("all", Lands::rich, x -> x.reach(LETTER, 5), 0b111111);
        s.due("itself, a hermit's", hermitAlone().reach(BILL, 0), 0b1);
        s.due("of twelve", Lands.full().reach(SECRET, 10), 0b110000000000);

        s.promise(14, "BEYOND.");
        beyondOfOne(DownhillPost::reach);
        s.due("no villages", new DownhillPost().reach(LETTER, 0), Due.BEYOND);
    }

    private static DownhillPost hermitAlone() {
        DownhillPost x = Lands.heights(5);
        x.hermit(0, true);
        return x;
    }

    private void promise15() {
        s.promise(15, "VILLAGES from which it can come to one (itself, too), as a set.");
        s.onlyAsks("itself alone", Lands::rich, x -> x.whence(SECRET, 0), 0b000001);
        s.onlyAsks("from all", Lands::rich, x -> x.whence(LETTER, 0), 0b111111);
        s.due("itself, a hermit's", hermitAlone().whence(BILL, 0), 0b1);
        s.due("itself alone, which isn't 0", Lands.five().whence(LETTER, 2), 0b00100);
        s.due("of twelve", Lands.full().whence(SECRET, 11), 4095);

        s.promise(15, "BEYOND.");
        beyondOfOne(DownhillPost::whence);
        s.due("no villages", new DownhillPost().whence(LETTER, 0), Due.BEYOND);
    }

    private void promise16() {
        s.promise(16, "VILLAGES to which it can come by ROADS alone, as a set.");
        s.onlyAsks("by no balloon", Lands::rich, x -> x.below(LETTER, 4), 0b010000);
        s.onlyAsks("all the way down", Lands::rich, x -> x.below(LETTER, 0), 0b011111);
        s.onlyAsks("a bill past hermits", Lands::rich, x -> x.below(BILL, 0), 0b011001);
        s.due("itself, a hermit's", hermitAlone().below(BILL, 0), 0b1);
        s.due("on the level", Lands.five().below(FEATHER, 2), 0b11110);
        s.due("not on the level", Lands.five().below(LETTER, 2), 0b11100);
        s.due("of twelve", Lands.full().below(LETTER, 0), 4095);

        s.promise(16, "BEYOND.");
        beyondOfOne(DownhillPost::below);
        s.due("no villages", new DownhillPost().below(LETTER, 0), Due.BEYOND);
    }

    private void promise17() {
        s.promise(17, "In how many DAYS from now an answer is here: POST of a KIND to a VILLAGE at EARLIEST, and"
            + " from that DAY on back at EARLIEST.");
        // Day 6: up on 7, and down again in ten days.
        s.onlyAsks("from the sea to the peak", Lands::rich, x -> x.round(LETTER, 4, 0), 11);
        s.onlyAsks("itself", Lands::rich, x -> x.round(SECRET, 2, 2), 0);
        DownhillPost x = Lands.heights(9, 0);
        x.road(0, 1, 7);
        s.due("there just as the balloon goes", x.round(LETTER, 0, 1), 8);
        x.day(1);
        s.due("there a day after it", x.round(LETTER, 0, 1), 14);
        x.day(9999);
        // 9999 is 3 above 1428 times 7: up on 10003, down on 10011.
        s.due("on the last day", x.round(LETTER, 1, 0), 12);

        s.promise(17, "BEYOND.");
        beyond(DownhillPost::round);

        s.promise(17, "NONE.");
        none("there, but not back", y -> y.round(SECRET, 0, 4));
        none("back, but not there", y -> y.round(SECRET, 4, 0));
        none("neither", y -> y.round(SECRET, 3, 5));
    }

    private void promise18() {
        s.promise(18, "BEYOND: kind, set (no VILLAGES, others).");
        for (int kind : NO_KIND) {
            s.refused("kind " + kind, Lands::rich, x -> x.live(kind, 1), Due.BEYOND);
        }
        s.refused("no villages", Lands::rich, x -> x.live(LETTER, 0), Due.BEYOND);
        for (int set : new int[] {0b1000000, 0b1000001, 0b1111111, 1 << 12, MIN, MIN + 1, -1, MAX}) {
            s.refused("others " + set, Lands::rich, x -> x.live(LETTER, set), Due.BEYOND);
        }
        s.refused("a 13th", Lands::full, x -> x.live(LETTER, 4096), Due.BEYOND);
        s.due("the 12th", Lands.full().live(LETTER, 2048), 11);
        s.refused("none there", DownhillPost::new, x -> x.live(LETTER, 0), Due.BEYOND);
        s.refused("none there", DownhillPost::new, x -> x.live(LETTER, 1), Due.BEYOND);

        s.promise(18, "NONE: nowhere all can be written to.");
        s.refused("from 0 all, but without answers", Lands::five, x -> x.live(SECRET, 0b11111), Due.NONE);
        s.refused("two apart", () -> Lands.heights(5, 4, 3), x -> x.live(LETTER, 0b011), Due.NONE);
        s.due("one of them", Lands.heights(5, 4, 3).live(LETTER, 0b010), 1);
    }

    private void promise18Homes() {
        s.promise(18, "The VILLAGE in which one should live so that the longest round() to all of a set is shortest"
            + " (a letter to one's own VILLAGE 0); of several the least.");
        DownhillPost row = Lands.heights(4, 4, 4, 4, 4);
        for (int i = 0; i < 4; i++) {
            row.road(i, i + 1, 1);
        }
        s.due("in the middle", row.live(FEATHER, 0b11111), 2);
        s.due("in the middle, which isn't of the set", row.live(FEATHER, 0b10001), 2);
        s.due("of two in the middle the least", row.live(FEATHER, 0b01001), 1);
        s.due("of two the least", row.live(FEATHER, 0b11000), 3);
        s.due("in one's own", row.live(FEATHER, 0b10000), 4);
        s.due("the longest, not all together", row.live(FEATHER, 0b10011), 2);
        s.onlyAsks("only asks", Lands::rich, x -> x.live(SECRET, 0b000100), 2);
        // By the balloon: from 0 down on 7 and up on 8; from 1 up on 1 and down on 8.
        DownhillPost x = Lands.heights(9, 0);
        x.road(0, 1, 7);
        s.due("as long from both", x.live(LETTER, 0b11), 0);
        x.day(1);
        s.due("from 0 on 15, from 1 on 15", x.live(LETTER, 0b11), 0);
        x.slide(0, 0);
        x.slide(1, 9);
        s.due("the other way round", x.live(LETTER, 0b11), 0);
        x.every(50);
        x.day(44);
        // From 0 (the sea) up from 50 to 51, down on 58; from 1 down on 51, up from 100 to 101.
        s.due("as the balloon goes", x.live(LETTER, 0b11), 0);
        x.day(43);
        s.due("down on 50 and up at once on 51, or up on 51 and down on 58", x.live(LETTER, 0b11), 1);
    }

    private void promise19() {
        s.promise(19, "Pairs of VILLAGES of which neither can write to the other one by POST of a KIND, how many.");
        s.due("no villages", new DownhillPost().quiet(LETTER), 0);
        s.due("one", Lands.heights(5).quiet(LETTER), 0);
        s.due("two and the balloon", Lands.heights(5, 4).quiet(LETTER), 0);
        s.due("two without it", Lands.heights(5, 4).quiet(SECRET), 1);
        s.due("two on the level", Lands.heights(5, 5).quiet(LETTER), 1);
        DownhillPost twelve = Lands.heights(1, 2, 3, 4, 5, 6, 7, 8, 9, 10, 11, 12);
        s.due("twelve apart", twelve.quiet(SECRET), 66);
        s.due("twelve, of which two by the balloon", twelve.quiet(LETTER), 65);
        twelve.hermit(11, true);
        s.due("by which no bill goes to a hermit", twelve.quiet(BILL), 66);
        s.due("full of roads", Lands.full().quiet(LETTER), 0);
        s.onlyAsks("one of a pair can", Lands::rich, x -> x.quiet(SECRET), 4);

        s.promise(19, "BEYOND.");
        for (int kind : NO_KIND) {
            s.refused("kind " + kind, Lands::rich, x -> x.quiet(kind), Due.BEYOND);
        }
        s.due("kind, without villages", new DownhillPost().quiet(6), Due.BEYOND);
    }

    private void promise20() {
        s.promise(20, "The KIND by which POST comes from a VILLAGE to another one EARLIEST; of several the least.");
        s.onlyAsks("quick", Lands::rich, x -> x.kind(0, 4), QUICK);
        s.onlyAsks("itself, all on the same day", Lands::rich, x -> x.kind(1, 1), LETTER);
        s.onlyAsks("by the balloon all but one", Lands::rich, x -> x.kind(4, 0), LETTER);
        DownhillPost x = Lands.heights(9, 8, 8);
        x.road(0, 1, 1);
        x.road(1, 2, 9);
        s.due("quick and letter in a day", x.kind(0, 1), LETTER);
        s.due("feathers and secrets alone", x.kind(1, 2), FEATHER);

        s.promise(20, "BEYOND.");
        for (int village : NO_SUCH) {
            s.refused("from " + village, Lands::rich, y -> y.kind(village, 0), Due.BEYOND);
            s.refused("to " + village, Lands::rich, y -> y.kind(0, village), Due.BEYOND);
            s.refused("both " + village, Lands::rich, y -> y.kind(village, village), Due.BEYOND);
        }

        s.promise(20, "NONE: by none.");
        none("up", y -> y.kind(3, 5));
        s.due("apart", Lands.heights(5, 5).kind(0, 1), Due.NONE);
        DownhillPost hermits = Lands.heights(9, 0);
        hermits.hermit(0, true);
        s.due("not all but some", hermits.kind(1, 0), LETTER);
    }

    private void promise21() {
        s.promise(21, "The least HEIGHT (0 to 9999) to which a VILLAGE must rise (none lower than it is) so that"
            + " POST of a KIND can come from it to another one by ROADS alone (HEIGHT now, if it can).");
        DownhillPost x = Lands.heights(0, 0, 9998, 9999, 300, 700);
        x.road(0, 1, 1);
        x.road(0, 2, 1);
        x.road(0, 3, 1);
        s.due("from 0 over 0", x.rise(LETTER, 0, 1), 1);
        s.due("from 0 beside 0", x.rise(FEATHER, 0, 1), 0);
        s.due("over 9998", x.rise(LETTER, 0, 2), 9999);
        s.due("beside 9999", x.rise(FEATHER, 0, 3), 9999);
        s.due("it can now, and needn't fall", x.rise(LETTER, 3, 0), 9999);
        x.road(1, 4, 1);
        x.road(1, 5, 1);
        x.road(4, 2, 1);
        x.road(5, 2, 1);
        s.due("neither of two leads there", x.rise(QUICK, 1, 2), Due.NONE);
        x.slide(2, 5);
        s.due("both lead there, the lowest of all doesn't", x.rise(QUICK, 1, 2), 301);
        DownhillPost two = Lands.heights(0, 700, 300, 100);
        two.road(0, 1, 1);
        two.road(0, 2, 1);
        two.road(1, 3, 1);
        two.road(2, 3, 1);
        s.due("the lower of two", two.rise(LETTER, 0, 3), 301);
        s.due("beside the lower of two", two.rise(SECRET, 0, 3), 300);
        s.due("over village 0", Lands.five().rise(LETTER, 3, 1), 901);
        two.hermit(2, true);
        s.due("a bill past a hermit", two.rise(BILL, 0, 3), 701);
        two.slide(2, 100);
        s.due("the lower doesn't lead there", two.rise(LETTER, 0, 3), 701);
        s.onlyAsks("it can", Lands::rich, y -> y.rise(LETTER, 5, 4), 50);
        s.onlyAsks("only asks", Lands::rich, y -> y.rise(LETTER, 3, 2), 501);
    }

    private void promise21Bounds() {
        s.promise(21, "BEYOND (also one and the same).");
        beyond(DownhillPost::rise);
        for (int village = 0; village < 6; village++) {
            int v = village;
            s.refused("one and the same " + v, Lands::rich, x -> x.rise(LETTER, v, v), Due.BEYOND);
        }

        s.promise(21, "NONE.");
        s.refused("no road", Lands::five, x -> x.rise(LETTER, 4, 2), Due.NONE);
        s.refused("over 9999", () -> joined(9999), x -> x.rise(LETTER, 0, 1), Due.NONE);
        s.due("over 9998", joined(9998).rise(LETTER, 0, 1), 9999);
        s.due("beside 9999", joined(9999).rise(FEATHER, 0, 1), 9999);
        s.due("by the balloon is not by roads", Lands.heights(0, 9).rise(LETTER, 0, 1), Due.NONE);
        DownhillPost hermit = joined(5);
        hermit.hermit(1, true);
        s.due("no bill to a hermit, however high", hermit.rise(BILL, 0, 1), Due.NONE);
        s.due("any other", hermit.rise(HEAVY, 0, 1), 6);
    }

    private static DownhillPost joined(int height) {
        DownhillPost x = Lands.heights(0, height);
        x.road(1, 0, 9);
        return x;
    }

    private void promise22() {
        s.promise(22, "How deep POST of a KIND falls from a VILLAGE to another one (HEIGHT of the one less that of"
            + " the other).");
        s.onlyAsks("down", Lands::rich, x -> x.fall(LETTER, 0, 4), 900);
        s.due("from the highest to the lowest", joined(9999).fall(LETTER, 1, 0), 9999);
        s.due("1", joined(1).fall(BILL, 1, 0), 1);
        s.due("on the level", Lands.five().fall(FEATHER, 1, 2), 0);

        s.promise(22, "BEYOND.");
        beyond(DownhillPost::fall);

        s.promise(22, "NONE: it can't come by ROADS alone (0 to itself).");
        none("by the balloon", x -> x.fall(LETTER, 4, 0));
        none("to a hermit", x -> x.fall(BILL, 0, 1));
        s.due("not on the level", Lands.five().fall(LETTER, 1, 2), Due.NONE);
        s.onlyAsks("to itself", Lands::rich, x -> x.fall(LETTER, 4, 4), 0);
        s.due("a hermit to himself", hermitAlone().fall(BILL, 0, 0), 0);
    }

    private void promise23() {
        s.promise(23, "The VILLAGE next to which, by a new ROAD (of 1 DAY) from one, POST of a KIND could come to"
            + " most VILLAGES from that one (by all, more than now); of several the least (whether there is room"
            + " for a ROAD or not).");
        DownhillPost x = Lands.heights(9, 8, 7, 6, 5);
        x.road(2, 3, 1);
        s.due("two rather than one", x.dig(SECRET, 0), 2);
        s.due("more than now", x.dig(SECRET, 2), 4);
        DownhillPost balloon = Lands.heights(9, 5, 4, 0);
        balloon.road(0, 2, 1);
        s.due("by all: the sea, and what can be come to from the peak", balloon.dig(LETTER, 1), 3);
        s.due("by roads where no balloon takes it", balloon.dig(SECRET, 1), 2);
        s.due("of several the least", Lands.heights(1, 5, 1, 1).dig(SECRET, 1), 0);
        s.due("to the level", Lands.heights(5, 5).dig(FEATHER, 1), 0);
        DownhillPost full = Lands.full();
        full.slide(11, 950);
        s.due("no room", full.road(1, 11, 1), Due.FULL);
        s.due("though there is no room", full.dig(SECRET, 1), 11);
        s.onlyAsks("only asks", Lands::rich, y -> y.dig(SECRET, 0), 5);

        s.promise(23, "BEYOND.");
        beyondOfOne(DownhillPost::dig);
        s.due("no villages", new DownhillPost().dig(LETTER, 0), Due.BEYOND);

        s.promise(23, "NONE.");
        none("the lowest", y -> y.dig(SECRET, 4));
        none("all by now", y -> y.dig(LETTER, 5));
        s.due("one village", Lands.heights(5).dig(FEATHER, 0), Due.NONE);
        s.due("not on the level", Lands.heights(5, 5).dig(LETTER, 0), Due.NONE);
        DownhillPost hermit = Lands.heights(5, 4);
        hermit.hermit(1, true);
        s.due("no bill to a hermit", hermit.dig(BILL, 0), Due.NONE);
    }
}
