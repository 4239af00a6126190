/** What the document says of all calls: how findings are told and in which order, sets, quotients, the kinds. */
final class TermEdges {
    private static final int MIN = Integer.MIN_VALUE;
    private static final int MAX = Integer.MAX_VALUE;

    private final Sentences s;

    TermEdges(Sentences s) {
        this.s = s;
    }

    void all() {
        calls();
        findings();
        orderOfLand();
        orderOfLetters();
        orderOfSheets();
        quotients();
        sets();
        kinds();
    }

    private void calls() {
        s.begin("What it is", "An object is used for at most 512 calls after it has been made; what later calls"
            + " answer is free.");
        DownhillPost x = new DownhillPost();
        for (int call = 1; call <= 510; call++) {
            x.village(-1);
        }
        s.due("the 511th", x.status(0), 510);
        s.due("the 512th", x.village(9999), 0);
        DownhillPost days = new DownhillPost();
        for (int call = 1; call <= 511; call++) {
            s.due("day by day", days.days(1), 0);
        }
        s.due("the 512th", days.now(0), 511);
    }

    private void findings() {
        s.terms("FINDINGS are answers below -1000000000: -1000000001 BEYOND, -1000000002 FULL, -1000000003 KIND,"
            + " -1000000004 NONE, -1000000005 STATE, -1000000006 MISSING, -1000000007 SIZE (in longs, too).");
        DownhillPost x = Lands.full();
        s.due("BEYOND", x.village(-1), -1000000001);
        s.due("FULL", x.village(1), -1000000002);
        s.due("KIND", x.as(0, 1), -1000000003);
        s.due("NONE", x.least(Lands.SECRET, 11, 0), -1000000004);
        s.due("STATE", x.road(0, 1, 1), -1000000005);
        s.due("MISSING", x.lays(0), -1000000006);
        s.due("SIZE", x.sheet(0, 8, -1), -1000000007);
        s.due("BEYOND as a long", x.write(4, 0, 0L), -1000000001L);
        s.due("BEYOND as a long", x.write(3, 40, 0L), -1000000001L);
        s.due("MISSING as a long", x.write(0, 0, 0L), -1000000006L);
        s.due("all of them", x.status(-1), 10);
    }

    private void orderOfLand() {
        s.terms("Each act tells its findings in the order in which they are asked; one that answers a finding"
            + " changes nothing but status().");
        s.refused("village: BEYOND ahead of FULL", Lands::full, x -> x.village(10000), Due.BEYOND);
        s.refused("road: BEYOND ahead of STATE", Lands::rich, x -> x.road(0, 1, 0), Due.BEYOND);
        s.refused("road: BEYOND ahead of FULL", Lands::full, x -> x.road(0, 2, 10), Due.BEYOND);
        s.refused("road: STATE ahead of FULL", Lands::full, x -> x.road(1, 0, 1), Due.STATE);
        s.refused("road: FULL at last", Lands::full, x -> x.road(0, 2, 1), Due.FULL);
        s.refused("least: BEYOND ahead of NONE", Lands::rich, x -> x.least(Lands.SECRET, 4, 6), Due.BEYOND);
        s.refused("round: BEYOND ahead of NONE", Lands::rich, x -> x.round(6, 4, 0), Due.BEYOND);
        s.refused("live: BEYOND ahead of NONE", Lands::rich, x -> x.live(Lands.SECRET, 127), Due.BEYOND);
        s.refused("rise: BEYOND ahead of NONE", Lands::rich, x -> x.rise(Lands.LETTER, 5, 5), Due.BEYOND);
        s.refused("fall: BEYOND ahead of NONE", Lands::rich, x -> x.fall(-1, 4, 0), Due.BEYOND);
        s.refused("dig: BEYOND ahead of NONE", Lands::rich, x -> x.dig(6, 4), Due.BEYOND);
    }

    private void orderOfLetters() {
        s.refused("send: BEYOND ahead of FULL", Lands::full, x -> x.send(6, 0, 1), Due.BEYOND);
        s.refused("send: BEYOND ahead of FULL", Lands::full, x -> x.send(0, 0, 12), Due.BEYOND);
        s.refused("as: BEYOND ahead of KIND", Lands::rich, x -> x.as(1, 6), Due.BEYOND);
        s.refused("next: BEYOND ahead of STATE", Lands::rich, x -> x.next(4), Due.BEYOND);
        s.refused("days: BEYOND ahead of STATE", () -> late(9999), x -> x.days(201), Due.BEYOND);
        s.refused("days: BEYOND ahead of STATE", () -> late(9999), x -> x.days(MAX), Due.BEYOND);
        s.refused("on: BEYOND ahead of STATE", () -> late(9999), x -> x.on(0, 201), Due.BEYOND);
        s.refused("on: BEYOND ahead of STATE", () -> late(9999), x -> x.on(4, 1), Due.BEYOND);
        s.refused("when: BEYOND ahead of STATE", () -> late(9999), x -> x.when(4), Due.BEYOND);
        s.refused("when: STATE ahead of NONE", () -> late(9800), x -> x.when(1), Due.STATE);
        s.refused("first: BEYOND ahead of STATE", () -> late(9999), x -> x.first(1, 1), Due.BEYOND);
        s.refused("first: BEYOND ahead of STATE", () -> late(9999), x -> x.first(1, 4), Due.BEYOND);
        s.refused("first: STATE ahead of NONE", () -> neverThere(9800), x -> x.first(0, 1), Due.STATE);
        s.refused("first: NONE at last", () -> neverThere(9799), x -> x.first(0, 1), Due.NONE);
        s.refused("feed: BEYOND ahead of FULL", Lands::full, x -> x.feed(0, 5), Due.BEYOND);
    }

    private void orderOfSheets() {
        s.refused("sheet: no such one ahead of SIZE", Lands::rich, x -> x.sheet(4, 8, -1), Due.BEYOND);
        s.refused("sheet: bits ahead of SIZE", Lands::rich, x -> x.sheet(0, 32, -1), Due.BEYOND);
        s.refused("write: BEYOND ahead of MISSING", Lands::rich, x -> x.write(4, 0, 1), Due.BEYOND);
        s.refused("write: MISSING ahead of BEYOND", Lands::rich, x -> x.write(3, 40, 1), Due.MISSING);
        s.refused("copy: BEYOND ahead of MISSING", Lands::rich, x -> x.copy(3, 0, 4, 0, 1), Due.BEYOND);
        s.refused("copy: BEYOND ahead of MISSING", Lands::rich, x -> x.copy(-1, 0, 3, 0, 1), Due.BEYOND);
        s.refused("copy: MISSING ahead of KIND", Lands::rich, x -> x.copy(0, 0, 3, 0, 1), Due.MISSING);
        s.refused("copy: MISSING ahead of BEYOND", Lands::rich, x -> x.copy(3, -1, 0, 0, 1), Due.MISSING);
        s.refused("copy: KIND ahead of BEYOND", Lands::rich, x -> x.copy(0, 0, 1, 0, 99), Due.KIND);
        s.refused("copy: BEYOND at last", Lands::rich, x -> x.copy(0, 0, 2, 0, 99), Due.BEYOND);
        s.refused("lays: BEYOND ahead of MISSING", Lands::rich, x -> x.lays(4), Due.BEYOND);
        s.refused("table: MISSING ahead of kind", Lands::rich, x -> x.table(3, 6, 0), Due.MISSING);
        s.refused("table: MISSING ahead of from", Lands::rich, x -> x.table(3, 0, 6), Due.MISSING);
        s.refused("table: no such sheet ahead of MISSING", Lands::rich, x -> x.table(4, 0, 0), Due.BEYOND);
        s.refused("read: MISSING ahead of kind", Lands::rich, x -> x.read(3, 6), Due.MISSING);
        s.refused("read: no such sheet ahead of MISSING", Lands::rich, x -> x.read(4, 0), Due.BEYOND);
        s.refused("undo: NONE", Lands::five, DownhillPost::undo, Due.NONE);
    }

    /** Letter 1 can never come. */
    private static DownhillPost late(int day) {
        DownhillPost x = Lands.rich();
        x.day(day);
        return x;
    }

    private static DownhillPost neverThere(int day) {
        DownhillPost x = Lands.five();
        x.send(Lands.SECRET, 4, 0);
        x.send(Lands.SECRET, 3, 1);
        x.day(day);
        return x;
    }

    private void quotients() {
        s.terms("Quotients are cut.");
        DownhillPost x = Lands.heights(1, 0);
        x.every(99);
        x.day(9800);
        // 9800 / 99 is 98 and a rest of 98: the balloon goes on 99 times 99, a day from now.
        s.due("98 times, cut", x.least(Lands.LETTER, 1, 0), 2);
        x.day(9801);
        s.due("99 times, no rest", x.least(Lands.LETTER, 1, 0), 1);
        x.day(9802);
        s.due("99 times, cut", x.least(Lands.LETTER, 1, 0), 99);
    }

    private void sets() {
        s.terms("Sets are told by bits.");
        DownhillPost x = Lands.full();
        s.due("all twelve", x.reach(Lands.LETTER, 0), 4095);
        s.due("the first alone", x.whence(Lands.SECRET, 0), 1);
        s.due("the twelfth alone", x.below(Lands.LETTER, 11), 1 << 11);
        s.due("the twelfth as a set", x.live(Lands.SECRET, 1 << 11), 11);
        s.due("the first as a set", x.live(Lands.SECRET, 1), 0);
        s.due("letter 0", x.villageOf(1, 3), 1);
        s.due("letter 9", x.villageOf(10, 3), 1 << 9);
        s.due("none", x.villageOf(0, 3), 0);
        DownhillPost all = Lands.heights(1);
        for (int i = 0; i < 10; i++) {
            all.send(Lands.LETTER, 0, 0);
        }
        s.due("all ten", all.villageOf(0, 3), 1023);
    }

    private void kinds() {
        s.terms("POST is of KINDS: 0 LETTER, 1 QUICK under LETTER, 2 HEAVY under LETTER, 3 FEATHER under LETTER, 4"
            + " BILL under HEAVY, 5 SECRET under FEATHER.");
        boolean[][] under = new boolean[6][6];
        for (int kind = 0; kind < 6; kind++) {
            under[kind][kind] = true;
            under[kind][0] = true;
        }
        under[4][2] = true;
        under[5][3] = true;
        DownhillPost x = Lands.five();
        for (int kind = 0; kind < 6; kind++) {
            s.due("kind " + kind, x.send(kind, 3, 2), kind);
            for (int as = 0; as < 6; as++) {
                s.due(kind + " as " + as, x.as(kind, as), under[kind][as] ? 2 : Due.KIND);
            }
        }
        for (int none : new int[] {MIN, -1, 6, 7, MAX}) {
            s.due("no kind " + none, x.send(none, 3, 2), Due.BEYOND);
        }
    }
}
