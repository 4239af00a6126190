/** Villages, roads, the balloon's days: the terms of the land, and promises 1 to 10. */
final class LandEdges {
    private static final int MIN = Integer.MIN_VALUE;
    private static final int MAX = Integer.MAX_VALUE;
    /** No village, road or letter of a rich land; 32 is one that a shift by bits would take for 0. */
    private static final int[] NO_SUCH = {MIN, -32, -1, 6, 7, 12, 24, 32, 64, MAX};
    private static final int[] NO_HEIGHT = {MIN, -1, 10000, 65536, MAX};

    private final Sentences s;

    LandEdges(Sentences s) {
        this.s = s;
    }

    void all() {
        villages();
        roads();
        seaAndPeak();
        balloon();
        day();
        promise1();
        promise2();
        promise3();
        promise4();
        promise5();
        promise6();
        promise7();
        promise8();
        promise9and10();
    }

    private void villages() {
        s.terms("VILLAGES 0, 1, .. (at most 12), each with HEIGHT (0 to 9999), a HERMIT's or not (at first).");
        DownhillPost x = new DownhillPost();
        for (int i = 0; i < 12; i++) {
            s.due("number", x.village(i * 909), i);
        }
        s.due("a 13th", x.village(1), Due.FULL);
        for (int i = 0; i < 12; i++) {
            s.due("height", x.villageOf(i, 0), i * 909);
            s.due("not at first", x.villageOf(i, 1), 0);
        }
        s.due("height 0", x.villageOf(0, 0), 0);
        s.due("height 9999", x.villageOf(11, 0), 9999);
        s.due("no height -1", x.slide(0, -1), Due.BEYOND);
        s.due("no height 10000", x.slide(0, 10000), Due.BEYOND);
    }

    private void roads() {
        s.terms("ROADS 0, 1, .. (at most 24), each between two unlike VILLAGES (no two between the same two), of"
            + " DAYS (1 to 9).");
        DownhillPost x = Lands.heights(0, 0, 0, 0, 0, 0, 0, 0);
        int made = 0;
        for (int one = 0; one < 8; one++) {
            for (int other = one + 1; other < 8 && made < 24; other++) {
                s.due("number", x.road(one, other, 1 + made % 9), made);
                made++;
            }
        }
        s.due("a 25th", x.road(6, 7, 1), Due.FULL);
        s.due("1 day", x.roadOf(18, 2), 1);
        s.due("9 days", x.roadOf(17, 2), 9);
        DownhillPost few = Lands.heights(0, 0, 0);
        s.due("like villages", few.road(1, 1, 1), Due.BEYOND);
        s.due("0 days", few.road(0, 1, 0), Due.BEYOND);
        s.due("10 days", few.road(0, 1, 10), Due.BEYOND);
        few.road(0, 1, 1);
        s.due("the same two", few.road(0, 1, 2), Due.STATE);
        s.due("the same two turned", few.road(1, 0, 2), Due.STATE);
        s.due("one of the two", few.road(1, 2, 2), 1);
    }

    private void seaAndPeak() {
        s.terms("SEA: the VILLAGE of least HEIGHT, PEAK: that of greatest; of several the least.");
        DownhillPost one = Lands.heights(9999);
        s.due("one is the sea", one.sea(), 0);
        s.due("and the peak", one.peak(), 0);
        DownhillPost same = Lands.heights(5, 5, 5);
        s.due("all alike, sea", same.sea(), 0);
        s.due("all alike, peak", same.peak(), 0);
        DownhillPost twice = Lands.heights(5, 9999, 0, 9999, 0);
        s.due("the first of two seas", twice.sea(), 2);
        s.due("the first of two peaks", twice.peak(), 1);
        DownhillPost last = Lands.heights(5, 5, 5, 5, 5, 5, 5, 5, 5, 5, 4, 6);
        s.due("the 11th", last.sea(), 10);
        s.due("the 12th", last.peak(), 11);
        last.slide(0, 4);
        s.due("as low as the 11th", last.sea(), 0);
        last.slide(3, 6);
        s.due("as high as the 12th", last.peak(), 3);
    }

    private void balloon() {
        s.terms("THE BALLOON goes from SEA to PEAK on each DAY that EVERY (1 to 99; 7 at first) divides, and is"
            + " there a DAY later.");
        DownhillPost x = Lands.heights(9, 5, 0);
        for (int day = 0; day < 15; day++) {
            x.day(day);
            s.due("7 at first, day " + day, x.least(Lands.LETTER, 2, 0), (7 - day % 7) % 7 + 1);
        }
        s.due("from the sea alone", x.least(Lands.LETTER, 1, 0), Due.NONE);
        s.due("to the peak alone", x.least(Lands.LETTER, 2, 1), Due.NONE);
        s.due("never back", x.least(Lands.LETTER, 0, 2), Due.NONE);
        x.every(1);
        for (int day : new int[] {0, 1, 2, 9998, 9999}) {
            x.day(day);
            s.due("each day", x.least(Lands.LETTER, 2, 0), 1);
        }
        x.every(99);
        int[] days = {0, 1, 98, 99, 100, 9998, 9999};
        int[] least = {1, 99, 2, 1, 99, 2, 1};
        for (int i = 0; i < days.length; i++) {
            x.day(days[i]);
            s.due("each 99th, day " + days[i], x.least(Lands.LETTER, 2, 0), least[i]);
        }
        s.due("not each 0th", x.every(0), Due.BEYOND);
        s.due("not each 100th", x.every(100), Due.BEYOND);
    }

    private void day() {
        s.terms("DAY: 0 at first (9999 at most).");
        DownhillPost x = new DownhillPost();
        s.due("at first", x.now(0), 0);
        s.due("at most", x.day(9999), 0);
        s.due("is", x.now(0), 9999);
        s.due("not more", x.day(10000), Due.BEYOND);
        s.due("not by a day", x.days(1), Due.STATE);
        s.due("is still", x.now(0), 9999);
    }

    private void promise1() {
        s.promise(1, "No VILLAGES, ROADS, LETTERS; THE TAPE is empty, no image is kept.");
        DownhillPost x = new DownhillPost();
        s.due("villages", x.count(0), 0);
        s.due("roads", x.count(1), 0);
        s.due("letters", x.count(2), 0);
        s.due("bytes", x.count(3), 0);
        s.due("heights", x.count(4), 0);
        for (int what = 2; what < 5; what++) {
            s.due("letters there, going, lying", x.now(what), 0);
        }
        s.due("no findings", x.status(-1), 0);
        s.due("the tape had", x.wipe(), 0);
        s.due("a text of nothing", x.text(), -1);
        s.due("nothing is torn", x.tear(), 0);
        s.refused("nothing is kept", DownhillPost::new, DownhillPost::undo, Due.NONE);
        s.refused("no village 0", DownhillPost::new, y -> y.villageOf(0, 0), Due.BEYOND);
        s.refused("no road 0", DownhillPost::new, y -> y.roadOf(0, 0), Due.BEYOND);
        s.refused("no letter 0", DownhillPost::new, y -> y.of(0, 0), Due.BEYOND);
        s.onlyAsks("no pairs", DownhillPost::new, y -> y.quiet(0), 0);
        s.due("days without letters", x.days(200), 0);
    }

    private void promise2() {
        s.promise(2, "A new VILLAGE: its number.");
        DownhillPost x = new DownhillPost();
        s.due("the lowest", x.village(0), 0);
        s.due("the highest", x.village(9999), 1);
        s.due("another as high", x.village(9999), 2);
        s.due("count", x.count(0), 3);
        s.due("without roads", x.villageOf(2, 2), 0);
        s.due("without letters", x.villageOf(2, 3), 0);
        DownhillPost back = Lands.heights(1, 2);
        back.image();
        back.village(3);
        back.hermit(2, true);
        back.undo();
        s.due("in the place of one undone", back.village(4), 2);
        s.due("not what that was", back.villageOf(2, 1), 0);

        s.promise(2, "BEYOND: height.");
        for (int height : NO_HEIGHT) {
            s.refused("height " + height, Lands::rich, y -> y.village(height), Due.BEYOND);
        }

        s.promise(2, "FULL.");
        s.refused("a 13th", Lands::full, y -> y.village(0), Due.FULL);
        DownhillPost eleven = Lands.heights(1, 1, 1, 1, 1, 1, 1, 1, 1, 1, 1);
        s.due("a 12th", eleven.village(0), 11);
        s.due("a 13th", eleven.village(0), Due.FULL);
    }

    private void promise3() {
        s.promise(3, "Of a VILLAGE: what 0 HEIGHT, 1 1 if a HERMIT's, else 0, 2 how many ROADS it has, 3 LETTERS"
            + " that lie there, as a set.");
        int[][] all = {{900, 0, 2, 0}, {600, 1, 2, 0}, {500, 1, 2, 0}, {100, 0, 3, 0b100}, {0, 0, 2, 0b10}, {50, 0, 1, 0}};
        for (int village = 0; village < 6; village++) {
            for (int what = 0; what < 4; what++) {
                int v = village;
                int w = what;
                s.onlyAsks("village " + v + " what " + w, Lands::rich, x -> x.villageOf(v, w), all[v][w]);
            }
        }
        DownhillPost x = Lands.heights(9, 8, 7, 6, 5, 4, 3, 2, 1, 0, 0, 0);
        for (int other = 1; other < 12; other++) {
            x.road(other, 0, 1);
        }
        s.due("roads to all others", x.villageOf(0, 2), 11);

        s.promise(3, "BEYOND.");
        for (int village : NO_SUCH) {
            s.refused("village " + village, Lands::rich, y -> y.villageOf(village, 0), Due.BEYOND);
        }
        for (int what : new int[] {MIN, -1, 4, MAX}) {
            s.refused("what " + what, Lands::rich, y -> y.villageOf(0, what), Due.BEYOND);
        }
    }

    private void promise4() {
        s.promise(4, "HEIGHT of a VILLAGE becomes v: what it was.");
        DownhillPost x = Lands.five();
        s.due("to the highest", x.slide(4, 9999), 0);
        s.due("to the lowest", x.slide(4, 0), 9999);
        s.due("to the same", x.slide(4, 0), 0);
        s.due("the others as they were", x.count(4), 2000);
        x.slide(1, 900);
        s.due("is", x.villageOf(1, 0), 900);
        s.due("it stays no hermit's", x.villageOf(1, 1), 0);

        s.promise(4, "BEYOND.");
        for (int village : NO_SUCH) {
            s.refused("village " + village, Lands::rich, y -> y.slide(village, 5), Due.BEYOND);
        }
        for (int height : NO_HEIGHT) {
            s.refused("height " + height, Lands::rich, y -> y.slide(0, height), Due.BEYOND);
        }
    }

    private void promise5() {
        s.promise(5, "A VILLAGE is a HERMIT's, or not: 1 if that is new, else 0.");
        DownhillPost x = Lands.heights(1, 1, 1, 1, 1, 1, 1, 1, 1, 1, 1, 1);
        for (int village : new int[] {0, 11}) {
            s.due("not, as before", x.hermit(village, false), 0);
            s.due("new", x.hermit(village, true), 1);
            s.due("as before", x.hermit(village, true), 0);
            s.due("is", x.villageOf(village, 1), 1);
            s.due("not, which is new", x.hermit(village, false), 1);
            s.due("isn't", x.villageOf(village, 1), 0);
        }
        x.hermit(5, true);
        for (int village = 0; village < 12; village++) {
            s.due("that one alone", x.villageOf(village, 1), village == 5 ? 1 : 0);
        }

        s.promise(5, "BEYOND.");
        for (int village : NO_SUCH) {
            s.refused("village " + village, Lands::rich, y -> y.hermit(village, true), Due.BEYOND);
            s.refused("village " + village, Lands::rich, y -> y.hermit(village, false), Due.BEYOND);
        }
    }

    private void promise6() {
        s.promise(6, "A new ROAD: its number.");
        DownhillPost x = Lands.heights(5, 5, 0);
        s.due("the shortest, on the level", x.road(1, 0, 1), 0);
        s.due("the longest, uphill", x.road(2, 0, 9), 1);
        s.due("count", x.count(1), 2);

        s.promise(6, "BEYOND: VILLAGES (also one and the same), days.");
        for (int village : NO_SUCH) {
            s.refused("one " + village, Lands::rich, y -> y.road(village, 0, 1), Due.BEYOND);
            s.refused("other " + village, Lands::rich, y -> y.road(0, village, 1), Due.BEYOND);
            s.refused("both " + village, Lands::rich, y -> y.road(village, village, 1), Due.BEYOND);
        }
        for (int village = 0; village < 6; village++) {
            int v = village;
            s.refused("one and the same " + v, Lands::rich, y -> y.road(v, v, 1), Due.BEYOND);
        }
        for (int days : new int[] {MIN, -1, 0, 10, MAX}) {
            s.refused("days " + days, Lands::rich, y -> y.road(0, 5, days), Due.BEYOND);
        }
        s.due("no villages at all", new DownhillPost().road(0, 1, 1), Due.BEYOND);

        s.promise(6, "STATE: there is one between them.");
        s.refused("as told", Lands::rich, y -> y.road(0, 1, 3), Due.STATE);
        s.refused("turned", Lands::rich, y -> y.road(1, 0, 3), Due.STATE);
        s.refused("the last one", Lands::rich, y -> y.road(4, 5, 2), Due.STATE);
        s.refused("however full", Lands::full, y -> y.road(11, 4, 2), Due.STATE);
        s.due("through another one is none", Lands.rich().road(0, 4, 1), 6);

        s.promise(6, "FULL.");
        s.refused("a 25th", Lands::full, y -> y.road(0, 2, 1), Due.FULL);
        DownhillPost undone = Lands.heights(1, 2);
        undone.image();
        undone.road(0, 1, 1);
        undone.undo();
        s.due("room again", undone.road(1, 0, 4), 0);
    }

    private void promise7() {
        s.promise(7, "Of a ROAD: what 0, 1 its VILLAGES (as told), 2 DAYS.");
        int[][] all = {{0, 1, 3}, {1, 2, 2}, {2, 3, 4}, {3, 4, 1}, {0, 3, 9}, {5, 4, 2}};
        for (int road = 0; road < 6; road++) {
            for (int what = 0; what < 3; what++) {
                int r = road;
                int w = what;
                s.onlyAsks("road " + r + " what " + w, Lands::rich, x -> x.roadOf(r, w), all[r][w]);
            }
        }
        s.due("the 24th", Lands.full().roadOf(23, 0), 11);
        s.due("the 24th", Lands.full().roadOf(23, 1), 4);

        s.promise(7, "BEYOND.");
        for (int road : NO_SUCH) {
            s.refused("road " + road, Lands::rich, x -> x.roadOf(road, 0), Due.BEYOND);
        }
        s.due("a 25th", Lands.full().roadOf(24, 0), Due.BEYOND);
        for (int what : new int[] {MIN, -1, 3, MAX}) {
            s.refused("what " + what, Lands::rich, x -> x.roadOf(0, what), Due.BEYOND);
        }
    }

    private void promise8() {
        s.promise(8, "EVERY becomes v: what it was.");
        DownhillPost x = new DownhillPost();
        s.due("7 at first", x.every(1), 7);
        s.due("least", x.every(99), 1);
        s.due("greatest", x.every(99), 99);
        s.due("is", x.now(1), 99);

        s.promise(8, "BEYOND.");
        for (int v : new int[] {MIN, -7, -1, 0, 100, MAX}) {
            s.refused("every " + v, Lands::rich, y -> y.every(v), Due.BEYOND);
        }
    }

    private void promise9and10() {
        s.promise(9, "SEA.");
        s.onlyAsks("sea", Lands::rich, DownhillPost::sea, 4);
        s.due("at 9999", Lands.heights(9999, 9999).sea(), 0);

        s.promise(9, "NONE: no VILLAGES.");
        s.refused("no villages", DownhillPost::new, DownhillPost::sea, Due.NONE);
        s.due("one", Lands.heights(0).sea(), 0);

        s.promise(10, "PEAK.");
        s.onlyAsks("peak", Lands::rich, DownhillPost::peak, 0);
        s.due("at 0", Lands.heights(0, 0).peak(), 0);

        s.promise(10, "NONE likewise.");
        s.refused("no villages", DownhillPost::new, DownhillPost::peak, Due.NONE);
        s.due("one", Lands.heights(0).peak(), 0);
    }
}
