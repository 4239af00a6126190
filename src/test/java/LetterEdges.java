import java.util.function.Supplier;

/** Letters and how they lie each day: the terms of these, and promises 24 to 34. */
final class LetterEdges {
    private static final int MIN = Integer.MIN_VALUE;
    private static final int MAX = Integer.MAX_VALUE;
    private static final int LETTER = Lands.LETTER;
    private static final int QUICK = Lands.QUICK;
    private static final int HEAVY = Lands.HEAVY;
    private static final int FEATHER = Lands.FEATHER;
    private static final int BILL = Lands.BILL;
    private static final int SECRET = Lands.SECRET;
    /** A rich land has letters 0 to 3. */
    private static final int[] NO_LETTER = {MIN, -1, 4, 10, 32, MAX};
    private static final int[] NO_VILLAGE = {MIN, -1, 6, 12, 32, MAX};
    private static final int[] NO_KIND = {MIN, -1, 6, 32, MAX};

    private final Sentences s;

    LetterEdges(Sentences s) {
        this.s = s;
    }

    void all() {
        letters();
        aDayGoes();
        ofSeveral();
        whereNoneLeads();
        restOfADay();
        on();
        promise24();
        promise25();
        promise26();
        promise27();
        promise28();
        promise29();
        promise30();
        promise31();
        promise32();
        promise33();
        promise34();
    }

    private void letters() {
        s.terms("LETTERS 0, 1, .. (at most 10): of a KIND, TO a VILLAGE, SENT on a DAY; each lies in a VILLAGE"
            + " (AT), or is on its way into one for so many DAYS yet (LEFT; 0: it lies there).");
        DownhillPost x = Lands.five();
        for (int i = 0; i < 10; i++) {
            x.day(1000 + i);
            s.due("number", x.send(i % 6, 0, i % 5), i);
        }
        s.due("an 11th", x.send(0, 0, 1), Due.FULL);
        for (int i = 0; i < 10; i++) {
            s.due("kind", x.of(i, 0), i % 6);
            s.due("to", x.of(i, 2), i % 5);
            s.due("sent", x.of(i, 3), 1000 + i);
            s.due("at", x.of(i, 1), 0);
            s.due("left", x.of(i, 4), 0);
        }
        s.due("all lie there", x.villageOf(0, 3), 1023);

        s.terms("It is THERE, if it lies where it is to go.");
        DownhillPost there = Lands.five();
        there.send(LETTER, 3, 3);
        there.send(HEAVY, 3, 4);
        s.due("from the first", there.of(0, 5), 1);
        s.due("it lies elsewhere", there.of(1, 5), 0);
        there.days(1);
        s.due("it is on its way there", there.of(1, 1), 4);
        s.due("but not there", there.of(1, 5), 0);
        there.days(1);
        s.due("it lies there", there.of(1, 5), 1);
    }

    private void aDayGoes() {
        s.terms("A DAY goes: (a) by numbers each LETTER that lies AT a VILLAGE, but isn't THERE, goes on its way,"
            + " by a ROAD or THE BALLOON (if it goes this DAY), by which it comes at EARLIEST (from this DAY on),"
            + " LEFT what that NEEDS (THE BALLOON: 1); of several into the least VILLAGE, by a ROAD rather than THE"
            + " BALLOON; if by none (it must wait, or can't come at all), it lies.");
        int[] left = {8, 4, 17, 9, 17, 9};
        for (int kind = 0; kind < 6; kind++) {
            DownhillPost x = Lands.five();
            x.road(0, 4, 9);
            x.slide(1, 0);
            x.send(kind, 0, 3);
            x.days(1);
            s.due("into 3, kind " + kind, x.of(0, 1), 3);
            s.due("left what that needs, less this day, kind " + kind, x.of(0, 4), left[kind]);
        }
        DownhillPost there = Lands.five();
        there.send(LETTER, 0, 0);
        there.days(200);
        s.due("one that is there stays", there.of(0, 1), 0);
        DownhillPost up = Lands.five();
        up.send(LETTER, 4, 0);
        up.day(6);
        up.days(1);
        s.due("no balloon on 6", up.of(0, 1), 4);
        s.due("up on 7", up.days(1), 1);
        s.due("1 day", up.of(0, 4), 0);
        up.send(LETTER, 4, 0);
        up.days(1);
        s.due("none on 8", up.of(1, 1), 4);
        DownhillPost early = Lands.balloonRather();
        early.every(4);
        early.send(LETTER, 1, 2);
        s.due("from 0 on by the balloon of 4", early.next(0), 3);
        early.every(9);
        s.due("from 0 on by the road", early.next(0), 2);
        early.day(8);
        s.due("from 8 on by the balloon of 9", early.next(0), 3);
    }

    private void ofSeveral() {
        DownhillPost two = Lands.heights(9, 5, 5, 0);
        two.road(0, 2, 1);
        two.road(0, 1, 2);
        two.road(2, 3, 2);
        two.road(1, 3, 1);
        two.send(LETTER, 0, 3);
        s.due("by 1 rather than by 2", two.next(0), 1);
        two.slide(1, 0);
        s.due("by 2 if 1 leads nowhere", two.next(0), 2);
        DownhillPost one = Lands.heights(5, 9, 5, 0);
        one.road(1, 2, 1);
        one.road(1, 0, 1);
        one.road(2, 3, 1);
        one.road(0, 3, 1);
        one.send(LETTER, 1, 3);
        s.due("by 0 rather than by 2", one.next(0), 0);
        // A feather in the sea is in a village on the level after nine days by the road, or by the balloon.
        DownhillPost road = Lands.heights(0, 0, 9);
        road.road(0, 1, 8);
        road.road(2, 1, 7);
        road.send(FEATHER, 0, 1);
        s.due("by the road into 1 rather than the balloon into 2", road.next(0), 1);
        s.due("on the same day", road.least(FEATHER, 0, 1), 9);
        DownhillPost balloon = Lands.heights(9, 0, 0);
        balloon.road(1, 2, 8);
        balloon.road(0, 2, 7);
        balloon.send(FEATHER, 1, 2);
        s.due("by the balloon into 0 rather than the road into 2", balloon.next(0), 0);
        balloon.turn(0, SECRET);
        s.due("a secret by the road on the same day", balloon.next(0), 2);
        balloon.turn(0, FEATHER);
        balloon.day(1);
        s.due("by the road if no balloon goes", balloon.next(0), 2);
        DownhillPost halfway = Lands.heights(9, 5, 3, 0);
        halfway.road(1, 2, 9);
        halfway.road(0, 2, 8);
        halfway.send(LETTER, 1, 2);
        s.due("no balloon from where the sea isn't, though it would be as early", halfway.next(0), 2);
    }

    private void whereNoneLeads() {
        DownhillPost x = Lands.five();
        x.hermit(3, true);
        x.day(1);
        x.send(SECRET, 4, 0);
        x.send(LETTER, 1, 4);
        x.send(BILL, 0, 3);
        x.send(LETTER, 4, 0);
        for (int letter = 0; letter < 4; letter++) {
            s.due("none leads on, letter " + letter, x.next(letter), -1);
        }
        s.due("only the balloon is waited for", x.days(200), 1);
        s.due("a secret lies in the sea", x.of(0, 1), 4);
        s.due("a letter lies on the level", x.of(1, 1), 1);
        s.due("a bill for a hermit lies", x.of(2, 1), 0);
        // While it waits a feather walks on the level, if that loses no day.
        DownhillPost walk = Lands.heights(0, 0, 9);
        walk.road(0, 1, 1);
        walk.day(3);
        walk.send(FEATHER, 0, 2);
        s.due("two days there and two back", walk.next(0), 1);
        walk.day(4);
        s.due("no time for that", walk.next(0), -1);
        // One that is on its way comes into a village whatever happens there.
        DownhillPost bill = Lands.five();
        bill.send(BILL, 2, 3);
        bill.days(1);
        bill.hermit(3, true);
        bill.slide(3, 9999);
        s.due("it comes nevertheless", bill.days(7), 1);
    }

    private void restOfADay() {
        s.terms("(b) LEFT of each that is on its way is one less.");
        DownhillPost x = Lands.five();
        x.send(HEAVY, 0, 3);
        x.send(LETTER, 3, 4);
        x.send(LETTER, 0, 3);
        for (int day = 1; day <= 18; day++) {
            x.days(1);
            s.due("after " + day, x.of(0, 4), 18 - day);
            s.due("not below 0", x.of(1, 4), 0);
            s.due("each", x.of(2, 4), Math.max(0, 9 - day));
        }
        x.days(1);
        s.due("none left", x.of(0, 4), 0);

        s.terms("Then DAY is one more.");
        DownhillPost day = Lands.five();
        day.send(LETTER, 4, 0);
        day.days(1);
        s.due("1", day.now(0), 1);
        day.days(199);
        s.due("200", day.now(0), 200);
        day.day(9998);
        day.days(1);
        s.due("9999", day.now(0), 9999);
    }

    private void on() {
        s.terms("ON: n DAYS go on with all as it is; nothing changes.");
        for (int n : new int[] {0, 1, 6, 7, 8, 200}) {
            s.onlyAsks("on " + n, Lands::rich, x -> x.on(0, n), n < 7 ? 3 : 4);
        }
        s.onlyAsks("when", Lands::rich, x -> x.when(0), 8);
        s.onlyAsks("first", Lands::rich, x -> x.first(0, 3), 2);
        DownhillPost x = Lands.five();
        x.send(LETTER, 3, 1);
        for (int n = 0; n <= 12; n++) {
            DownhillPost twin = Lands.five();
            twin.send(LETTER, 3, 1);
            if (n > 0) {
                twin.days(n);
            }
            s.due("as after " + n + " days", x.on(0, n), twin.of(0, 1));
        }
    }

    private void promise24() {
        s.promise(24, "A LETTER of a KIND, SENT now, lies in a VILLAGE: its number.");
        DownhillPost x = Lands.rich();
        s.due("number", x.send(SECRET, 5, 1), 4);
        int[] of = {SECRET, 5, 1, 6, 0, 0};
        for (int what = 0; what < 6; what++) {
            s.due("what " + what, x.of(4, what), of[what]);
        }
        s.due("to itself", x.send(LETTER, 5, 5), 5);
        s.due("where it can't come", x.send(BILL, 0, 1), 6);
        x.day(9999);
        s.due("on the last day", x.send(LETTER, 0, 1), 7);
        s.due("sent then", x.of(7, 3), 9999);

        s.promise(24, "BEYOND: kind, VILLAGES.");
        for (int kind : NO_KIND) {
            s.refused("kind " + kind, Lands::rich, y -> y.send(kind, 0, 1), Due.BEYOND);
        }
        for (int village : NO_VILLAGE) {
            s.refused("from " + village, Lands::rich, y -> y.send(LETTER, village, 1), Due.BEYOND);
            s.refused("to " + village, Lands::rich, y -> y.send(LETTER, 1, village), Due.BEYOND);
            s.refused("both " + village, Lands::rich, y -> y.send(LETTER, village, village), Due.BEYOND);
        }
        s.due("no villages", new DownhillPost().send(LETTER, 0, 0), Due.BEYOND);

        s.promise(24, "FULL.");
        s.refused("an 11th", Lands::full, y -> y.send(LETTER, 0, 1), Due.FULL);
        s.refused("an 11th that would be there", Lands::full, y -> y.send(LETTER, 0, 0), Due.FULL);
        DownhillPost nine = Lands.heights(5);
        for (int i = 0; i < 9; i++) {
            nine.send(LETTER, 0, 0);
        }
        s.due("a 10th", nine.send(LETTER, 0, 0), 9);
        s.due("though all are there", nine.send(LETTER, 0, 0), Due.FULL);
    }

    private void promise25() {
        s.promise(25, "Of a LETTER: what 0 KIND, 1 where it lies or goes into, 2 TO, 3 SENT, 4 LEFT, 5 1 if THERE,"
            + " else 0.");
        int[][] all = {{HEAVY, 3, 4, 3, 6, 0}, {SECRET, 4, 0, 3, 0, 0}, {BILL, 3, 3, 3, 0, 1}, {QUICK, 1, 1, 5, 1, 0}};
        for (int letter = 0; letter < 4; letter++) {
            for (int what = 0; what < 6; what++) {
                int l = letter;
                int w = what;
                s.onlyAsks("letter " + l + " what " + w, Lands::rich, x -> x.of(l, w), all[l][w]);
            }
        }

        s.promise(25, "BEYOND.");
        for (int letter : NO_LETTER) {
            s.refused("letter " + letter, Lands::rich, x -> x.of(letter, 0), Due.BEYOND);
        }
        for (int what : new int[] {MIN, -1, 6, MAX}) {
            s.refused("what " + what, Lands::rich, x -> x.of(0, what), Due.BEYOND);
        }
        s.due("an 11th", Lands.full().of(10, 0), Due.BEYOND);
        s.due("the 10th", Lands.full().of(9, 1), 10);
    }

    private void promise26() {
        s.promise(26, "A LETTER becomes one of another KIND: what it was.");
        DownhillPost x = Lands.rich();
        for (int kind = 0; kind < 6; kind++) {
            s.due("was", x.turn(1, kind), kind == 0 ? SECRET : kind - 1);
            s.due("is", x.of(1, 0), kind);
        }
        s.due("on its way", x.turn(0, QUICK), HEAVY);
        s.due("for as long", x.of(0, 4), 6);
        s.due("the others as they were", x.of(2, 0), BILL);
        s.due("the same kind", x.turn(0, QUICK), QUICK);

        s.promise(26, "BEYOND.");
        for (int letter : NO_LETTER) {
            s.refused("letter " + letter, Lands::rich, y -> y.turn(letter, 0), Due.BEYOND);
        }
        for (int kind : NO_KIND) {
            s.refused("kind " + kind, Lands::rich, y -> y.turn(0, kind), Due.BEYOND);
        }
    }

    private void promise27() {
        s.promise(27, "A LETTER as one of a kind: TO.");
        s.onlyAsks("its own", Lands::rich, x -> x.as(2, BILL), 3);
        s.onlyAsks("that above it", Lands::rich, x -> x.as(2, HEAVY), 3);
        s.onlyAsks("that above all", Lands::rich, x -> x.as(2, LETTER), 3);
        s.onlyAsks("where it is to go, not where it is", Lands::rich, x -> x.as(1, FEATHER), 0);

        s.promise(27, "BEYOND: no such one, kind.");
        for (int letter : NO_LETTER) {
            s.refused("letter " + letter, Lands::rich, x -> x.as(letter, 0), Due.BEYOND);
        }
        for (int kind : NO_KIND) {
            s.refused("kind " + kind, Lands::rich, x -> x.as(0, kind), Due.BEYOND);
        }

        s.promise(27, "KIND: it isn't of that kind, nor of one under it.");
        s.refused("beside it", Lands::rich, x -> x.as(2, QUICK), Due.KIND);
        s.refused("under it", Lands::rich, x -> x.as(0, BILL), Due.KIND);
        s.refused("under one beside it", Lands::rich, x -> x.as(2, SECRET), Due.KIND);
        s.refused("above one beside it", Lands::rich, x -> x.as(1, HEAVY), Due.KIND);
    }

    private void promise28() {
        s.promise(28, "The next VILLAGE into which a LETTER goes today; -1: it lies.");
        s.onlyAsks("it can't come", Lands::rich, x -> x.next(1), -1);
        s.onlyAsks("it is there", Lands::rich, x -> x.next(2), -1);
        s.onlyAsks("by a road", () -> sent(LETTER, 3, 4), x -> x.next(4), 4);
        s.onlyAsks("by the balloon, into 0", () -> sent(LETTER, 4, 2), x -> x.next(4), 0);
        s.onlyAsks("only the next", () -> sent(LETTER, 0, 2), x -> x.next(4), 1);
        DownhillPost waits = sent(LETTER, 4, 2);
        waits.day(7);
        s.due("it waits", waits.next(4), -1);
        waits.day(9999);
        s.due("on the last day", waits.next(4), -1);
        waits.every(99);
        s.due("up on the last day", waits.next(4), 0);

        s.promise(28, "BEYOND.");
        for (int letter : NO_LETTER) {
            s.refused("letter " + letter, Lands::rich, x -> x.next(letter), Due.BEYOND);
        }

        s.promise(28, "STATE: it is on its way.");
        s.refused("for six days", Lands::rich, x -> x.next(0), Due.STATE);
        s.refused("for one day, to where it is to go", Lands::rich, x -> x.next(3), Due.STATE);
        DownhillPost come = Lands.rich();
        come.days(1);
        s.due("it has come", come.next(3), -1);
    }

    /** A rich land with a letter 4. */
    private static DownhillPost sent(int kind, int from, int to) {
        DownhillPost x = Lands.rich();
        x.send(kind, from, to);
        return x;
    }

    private void promise29() {
        s.promise(29, "n DAYS go (1 to 200): how many LETTERS are THERE then that weren't.");
        int[] days = {1, 7, 8, 200};
        int[] came = {1, 1, 2, 2};
        for (int i = 0; i < days.length; i++) {
            DownhillPost x = Lands.rich();
            s.due("days " + days[i], x.days(days[i]), came[i]);
            s.due("day", x.now(0), 6 + days[i]);
        }
        DownhillPost two = Lands.rich();
        two.days(1);
        s.due("one that was there isn't counted", two.days(7), 1);
        s.due("none that weren't", two.days(200), 0);
        s.due("in 200 days", Lands.longWay(1).days(200), 2);
        s.due("not in 200 days", Lands.longWay(0).days(200), 1);

        s.promise(29, "BEYOND.");
        for (int n : new int[] {MIN, -200, -1, 0, 201, 9999, MAX}) {
            s.refused("days " + n, Lands::rich, x -> x.days(n), Due.BEYOND);
        }

        s.promise(29, "STATE: DAY would be above 9999.");
        s.refused("10000 in a day", () -> at(9999), x -> x.days(1), Due.STATE);
        s.refused("10000 in 200 days", () -> at(9800), x -> x.days(200), Due.STATE);
        s.refused("10199", () -> at(9999), x -> x.days(200), Due.STATE);
        DownhillPost last = at(9799);
        s.due("9999 in 200 days", last.days(200), 2);
        s.due("is", last.now(0), 9999);
        DownhillPost one = at(9998);
        s.due("9999 in a day", one.days(1), 1);
        s.due("is", one.now(0), 9999);
    }

    private static DownhillPost at(int day) {
        DownhillPost x = Lands.rich();
        x.day(day);
        return x;
    }

    private void promise30() {
        s.promise(30, "DAY becomes v (0 to 9999; LETTERS as they are): what it was.");
        DownhillPost x = Lands.rich();
        s.due("to the last", x.day(9999), 6);
        s.due("to the first", x.day(0), 9999);
        s.due("to the same", x.day(0), 0);
        s.due("on its way for as long", x.of(0, 4), 6);
        s.due("sent as before", x.of(0, 3), 3);
        s.due("back to 6", x.day(6), 0);
        s.sameAs("there and back", x, Lands.rich());

        s.promise(30, "BEYOND.");
        for (int v : new int[] {MIN, -1, 10000, MAX}) {
            s.refused("day " + v, Lands::rich, y -> y.day(v), Due.BEYOND);
        }
    }

    private void promise31() {
        s.promise(31, "What 0 DAY, 1 EVERY, 2 how many LETTERS are THERE, 3 on their way, 4 lie elsewhere.");
        int[] rich = {6, 6, 1, 2, 1};
        for (int what = 0; what < 5; what++) {
            int w = what;
            s.onlyAsks("what " + w, Lands::rich, x -> x.now(w), rich[w]);
        }
        s.due("all elsewhere", Lands.full().now(4), 10);
        DownhillPost there = Lands.heights(5);
        for (int i = 0; i < 10; i++) {
            there.send(LETTER, 0, 0);
        }
        s.due("all there", there.now(2), 10);
        s.due("none elsewhere", there.now(4), 0);
        DownhillPost going = Lands.five();
        for (int i = 0; i < 10; i++) {
            going.send(LETTER, 0, 3);
        }
        going.days(1);
        s.due("all on their way", going.now(3), 10);

        s.promise(31, "BEYOND.");
        for (int what : new int[] {MIN, -1, 5, MAX}) {
            s.refused("what " + what, Lands::rich, x -> x.now(what), Due.BEYOND);
        }
    }

    private void refusedLetters(Supplier<DownhillPost> land, int n) {
        for (int letter : NO_LETTER) {
            s.refused("letter " + letter, land, x -> x.on(letter, n), Due.BEYOND);
        }
    }

    private void promise32() {
        s.promise(32, "Where a LETTER lies or goes into ON n DAYS (0 to 200).");
        s.onlyAsks("on its way into 3 now", Lands::rich, x -> x.on(0, 0), 3);
        s.onlyAsks("in 3 on 6", Lands::rich, x -> x.on(0, 6), 3);
        s.onlyAsks("on its way into 4 on 7", Lands::rich, x -> x.on(0, 7), 4);
        s.onlyAsks("on 200", Lands::rich, x -> x.on(0, 200), 4);
        s.onlyAsks("it lies on 200", Lands::rich, x -> x.on(1, 200), 4);
        s.due("in the sea until 199", Lands.longWay(1).on(0, 199), 11);
        s.due("up on 200", Lands.longWay(1).on(0, 200), 0);
        s.due("not up on 200", Lands.longWay(0).on(0, 200), 11);

        s.promise(32, "BEYOND.");
        refusedLetters(Lands::rich, 0);
        refusedLetters(Lands::rich, 200);
        for (int n : new int[] {MIN, -1, 201, MAX}) {
            s.refused("on " + n, Lands::rich, x -> x.on(0, n), Due.BEYOND);
        }

        s.promise(32, "STATE: DAY would be above 9999.");
        s.refused("10000 in a day", () -> at(9999), x -> x.on(0, 1), Due.STATE);
        s.refused("10000 in 200 days", () -> at(9800), x -> x.on(0, 200), Due.STATE);
        s.onlyAsks("9999 now", () -> at(9999), x -> x.on(0, 0), 3);
        s.onlyAsks("9999 in a day", () -> at(9998), x -> x.on(0, 1), 3);
        s.onlyAsks("9999 in 200 days", () -> at(9799), x -> x.on(0, 200), 4);
    }

    private void promise33() {
        s.promise(33, "In how many DAYS (0 to 200) ON a LETTER is THERE.");
        s.onlyAsks("now", Lands::rich, x -> x.when(2), 0);
        s.onlyAsks("in a day", Lands::rich, x -> x.when(3), 1);
        s.onlyAsks("in eight", Lands::rich, x -> x.when(0), 8);
        s.due("in 200", Lands.longWay(1).when(0), 200);
        s.due("in 199", Lands.longWay(2).when(0), 199);

        s.promise(33, "BEYOND.");
        for (int letter : NO_LETTER) {
            s.refused("letter " + letter, Lands::rich, x -> x.when(letter), Due.BEYOND);
        }
        s.due("no letters", Lands.five().when(0), Due.BEYOND);

        s.promise(33, "STATE: DAY is above 9799.");
        s.onlyAsks("9799", () -> at(9799), x -> x.when(0), 8);
        s.refused("9800", () -> at(9800), x -> x.when(0), Due.STATE);
        s.refused("9800, though it is there", () -> at(9800), x -> x.when(2), Due.STATE);
        s.refused("9999", () -> at(9999), x -> x.when(0), Due.STATE);

        s.promise(33, "NONE.");
        s.refused("never", Lands::rich, x -> x.when(1), Due.NONE);
        s.refused("in 201 days", () -> Lands.longWay(0), x -> x.when(0), Due.NONE);
    }

    private void promise34() {
        s.promise(34, "Which of two LETTERS is THERE first: 1, 2, 0 on the same DAY (ON 0 to 200).");
        s.onlyAsks("the one", Lands::rich, x -> x.first(3, 0), 1);
        s.onlyAsks("the other", Lands::rich, x -> x.first(0, 3), 2);
        s.onlyAsks("now and in a day", Lands::rich, x -> x.first(2, 3), 1);
        s.onlyAsks("one that never is", Lands::rich, x -> x.first(1, 0), 2);
        s.onlyAsks("another that never is", Lands::rich, x -> x.first(0, 1), 1);
        s.onlyAsks("both now", () -> sent(SECRET, 5, 5), x -> x.first(2, 4), 0);
        s.onlyAsks("both in a day", () -> sent(LETTER, 3, 4), x -> x.first(3, 4), 0);
        DownhillPost last = Lands.longWay(1);
        last.send(HEAVY, 2, 0);
        s.due("both in 200 days", last.first(0, 3), 0);
        s.due("one in 200 days, one never", last.first(0, 1), 1);

        s.promise(34, "BEYOND (also one and the same).");
        for (int letter : NO_LETTER) {
            s.refused("one " + letter, Lands::rich, x -> x.first(letter, 0), Due.BEYOND);
            s.refused("other " + letter, Lands::rich, x -> x.first(0, letter), Due.BEYOND);
            s.refused("both " + letter, Lands::rich, x -> x.first(letter, letter), Due.BEYOND);
        }
        for (int letter = 0; letter < 4; letter++) {
            int l = letter;
            s.refused("one and the same " + l, Lands::rich, x -> x.first(l, l), Due.BEYOND);
        }

        s.promise(34, "STATE likewise.");
        s.onlyAsks("9799", () -> at(9799), x -> x.first(0, 3), 2);
        s.refused("9800", () -> at(9800), x -> x.first(0, 3), Due.STATE);
        s.refused("9999", () -> at(9999), x -> x.first(2, 3), Due.STATE);

        s.promise(34, "NONE: neither is.");
        s.refused("one in 201 days, one never", () -> Lands.longWay(0), x -> x.first(0, 1), Due.NONE);
        s.refused("turned", () -> Lands.longWay(0), x -> x.first(1, 0), Due.NONE);
        s.due("one of them is", Lands.longWay(0).first(0, 2), 2);
    }
}
