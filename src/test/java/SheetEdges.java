/** Sheets: the term of these, and promises 38 to 43. */
final class SheetEdges {
    private static final int MIN = Integer.MIN_VALUE;
    private static final int MAX = Integer.MAX_VALUE;
    private static final int LETTER = Lands.LETTER;
    private static final int HEAVY = Lands.HEAVY;
    private static final int FEATHER = Lands.FEATHER;
    private static final int BILL = Lands.BILL;
    private static final int[] NO_SHEET = {MIN, -1, 4, 5, 32, MAX};
    private static final int[] NO_KIND = {MIN, -1, 6, 32, MAX};
    private static final int[] NO_VILLAGE = {MIN, -1, 6, 12, 32, MAX};

    private final Sentences s;

    SheetEdges(Sentences s) {
        this.s = s;
    }

    void all() {
        sheets();
        promise38();
        promise38Bounds();
        promise39();
        promise39Bounds();
        promise40();
        promise40Bounds();
        promise41();
        promise42();
        promise42Bounds();
        promise43();
        promise43Bounds();
    }

    private static DownhillPost sheet(DownhillPost x, int bits, long... numbers) {
        x.sheet(0, bits, numbers.length);
        for (int i = 0; i < numbers.length; i++) {
            x.write(0, i, numbers[i]);
        }
        return x;
    }

    private void sheets() {
        s.terms("SHEETS 0 to 3 are rows of at most 40 numbers of 8, 16 or 64 bits, or MISSING (at first).");
        for (int sheet = 0; sheet < 4; sheet++) {
            DownhillPost x = new DownhillPost();
            s.due("missing at first", x.write(sheet, 0, 1), Due.MISSING);
            for (int bits : new int[] {8, 16, 64}) {
                s.due("40 of " + bits, x.sheet(sheet, bits, 40), 40);
                s.due("the first", x.write(sheet, 0, 1), 0);
                s.due("the 40th", x.write(sheet, 39, 1), 0);
                s.due("a 41st", x.write(sheet, 40, 1), Due.BEYOND);
                s.due("not 41", x.sheet(sheet, bits, 41), Due.BEYOND);
            }
        }
        s.due("no sheet 4", new DownhillPost().sheet(4, 8, 1), Due.BEYOND);
    }

    private void promise38() {
        s.promise(38, "A sheet has n numbers, all 0, of 8, 16 or 64 bits; bits 0: it is MISSING: n (0 if it is"
            + " MISSING).");
        for (int bits : new int[] {8, 16, 64}) {
            DownhillPost x = Lands.rich();
            s.due("anew", x.sheet(0, bits, 40), 40);
            for (int i = 0; i < 40; i++) {
                s.due("all 0", x.write(0, i, -1), 0);
            }
            s.due("shorter", x.sheet(0, bits, 1), 1);
            s.due("0", x.write(0, 0, -1), 0);
            s.due("longer again", x.sheet(0, bits, 2), 2);
            s.due("0 behind it, too", x.write(0, 1, -1), 0);
            s.due("of none", x.sheet(0, bits, 0), 0);
            s.due("isn't missing", x.lays(0), 0);
            s.due("the others as they were", x.write(2, 0, 0), 40);
        }
        for (int n : new int[] {0, 1, 40}) {
            DownhillPost x = Lands.rich();
            s.due("missing, " + n, x.sheet(0, 0, n), 0);
            s.due("is missing", x.write(0, 0, 1), Due.MISSING);
            s.due("again", x.sheet(0, 0, n), 0);
            x.sheet(0, 8, 3);
            s.due("nothing comes back", x.write(0, 1, 1), 0);
        }
    }

    private void promise38Bounds() {
        s.promise(38, "BEYOND: no such sheet, other bits.");
        for (int sheet : NO_SHEET) {
            s.refused("sheet " + sheet, Lands::rich, x -> x.sheet(sheet, 8, 1), Due.BEYOND);
            s.refused("sheet " + sheet, Lands::rich, x -> x.sheet(sheet, 0, 0), Due.BEYOND);
        }
        for (int bits : new int[] {MIN, -64, -8, -1, 1, 7, 9, 15, 17, 32, 63, 65, 128, MAX}) {
            s.refused("bits " + bits, Lands::rich, x -> x.sheet(0, bits, 1), Due.BEYOND);
        }

        s.promise(38, "SIZE: n is below 0 (also with bits 0).");
        for (int n : new int[] {-1, -40, MIN}) {
            for (int bits : new int[] {0, 8, 16, 64}) {
                s.refused(bits + " bits, " + n, Lands::rich, x -> x.sheet(0, bits, n), Due.SIZE);
            }
        }

        s.promise(38, "BEYOND: n is above 40 (also with bits 0).");
        for (int n : new int[] {41, 65536, MAX}) {
            for (int bits : new int[] {0, 8, 16, 64}) {
                s.refused(bits + " bits, " + n, Lands::rich, x -> x.sheet(0, bits, n), Due.BEYOND);
            }
        }
    }

    private void promise39() {
        s.promise(39, "Number i of a sheet becomes v (its lowest bits): what it was.");
        long[] v = {127, 128, 255, 256, -128, -129, 32767, 32768, 65535, 65536, Long.MAX_VALUE, Long.MIN_VALUE, -1};
        DownhillPost x = new DownhillPost();
        x.sheet(1, 8, 3);
        x.sheet(2, 16, 3);
        x.sheet(3, 64, 3);
        for (long one : v) {
            s.due("was", x.write(1, 1, one), 0);
            s.due("8 bits of " + one, x.write(1, 1, 0), (byte) one);
            s.due("was", x.write(2, 1, one), 0);
            s.due("16 bits of " + one, x.write(2, 1, 0), (short) one);
            s.due("was", x.write(3, 1, one), 0);
            s.due("64 bits of " + one, x.write(3, 1, 0), one);
        }
        x.write(1, 1, 5);
        s.due("no other number", x.write(1, 0, 0), 0);
        s.due("no other number", x.write(1, 2, 0), 0);
        s.due("no other sheet", x.write(2, 1, 0), 0);
        s.due("no finding", x.status(-1), 0);
    }

    private void promise39Bounds() {
        s.promise(39, "BEYOND: no such sheet.");
        for (int sheet : NO_SHEET) {
            s.refused("sheet " + sheet, Lands::rich, x -> x.write(sheet, 0, 1), Due.BEYOND);
        }

        s.promise(39, "MISSING.");
        for (int i : new int[] {MIN, -1, 0, 40, MAX}) {
            s.refused("number " + i, Lands::rich, x -> x.write(3, i, 1), Due.MISSING);
        }

        s.promise(39, "BEYOND: no such number.");
        for (int i : new int[] {MIN, -1, 3, 39, 40, MAX}) {
            s.refused("number " + i, Lands::rich, x -> x.write(0, i, 1), Due.BEYOND);
        }
        DownhillPost none = new DownhillPost();
        none.sheet(0, 64, 0);
        s.due("of none", none.write(0, 0, 1), Due.BEYOND);
    }

    private void promise40() {
        s.promise(40, "n numbers of a sheet from one on come to another one from one on (as they all were): n.");
        DownhillPost x = Lands.rich();
        s.due("the whole of a shorter one", x.copy(0, 0, 2, 2, 3), 3);
        numbers(x, 2, 40, 39, 1, 2, 3);
        numbers(x, 0, 1, 2, 3);
        s.due("forth over itself", x.copy(2, 0, 2, 1, 4), 4);
        numbers(x, 2, 40, 40, 39, 1, 2);
        s.due("back over itself", x.copy(2, 1, 2, 0, 4), 4);
        numbers(x, 2, 40, 39, 1, 2, 2);
        s.due("onto itself", x.copy(2, 0, 2, 0, 5), 5);
        numbers(x, 2, 40, 39, 1, 2, 2);
        s.due("none", x.copy(0, 0, 2, 0, 0), 0);
        s.due("none behind the end", x.copy(0, 3, 2, 5, 0), 0);
        numbers(x, 2, 40, 39, 1, 2, 2);
        DownhillPost most = new DownhillPost();
        most.sheet(0, 64, 40);
        most.sheet(1, 64, 40);
        most.write(0, 0, Long.MIN_VALUE);
        most.write(0, 39, Long.MAX_VALUE);
        s.due("all 40", most.copy(0, 0, 1, 0, 40), 40);
        s.due("the first", most.write(1, 0, 0), Long.MIN_VALUE);
        s.due("the last", most.write(1, 39, 0), Long.MAX_VALUE);
    }

    private void numbers(DownhillPost x, int sheet, long... numbers) {
        for (int i = 0; i < numbers.length; i++) {
            s.due("number " + i + " of sheet " + sheet, x.write(sheet, i, numbers[i]), numbers[i]);
        }
    }

    private void promise40Bounds() {
        s.promise(40, "BEYOND: no such sheet (either).");
        for (int sheet : NO_SHEET) {
            s.refused("from sheet " + sheet, Lands::rich, x -> x.copy(sheet, 0, 0, 0, 1), Due.BEYOND);
            s.refused("to sheet " + sheet, Lands::rich, x -> x.copy(0, 0, sheet, 0, 1), Due.BEYOND);
            s.refused("both " + sheet, Lands::rich, x -> x.copy(sheet, 0, sheet, 0, 0), Due.BEYOND);
        }

        s.promise(40, "MISSING: one is.");
        s.refused("the one", Lands::rich, x -> x.copy(3, 0, 0, 0, 1), Due.MISSING);
        s.refused("the other", Lands::rich, x -> x.copy(0, 0, 3, 0, 1), Due.MISSING);
        s.refused("both", Lands::rich, x -> x.copy(3, 0, 3, 0, 0), Due.MISSING);

        s.promise(40, "KIND: they are not of as many bits.");
        s.refused("8 to 16", Lands::rich, x -> x.copy(0, 0, 1, 0, 1), Due.KIND);
        s.refused("16 to 8", Lands::rich, x -> x.copy(1, 0, 2, 0, 1), Due.KIND);
        s.refused("none of them", Lands::rich, x -> x.copy(1, 0, 2, 0, 0), Due.KIND);
        s.refused("16 to 64", SheetEdges::wide, x -> x.copy(1, 0, 3, 0, 1), Due.KIND);

        s.promise(40, "BEYOND: one has not so many, or from, to or n is below 0.");
        int[][] bad = {
            {0, 0, 4}, {1, 0, 3}, {2, 0, 2}, {3, 0, 1}, {4, 0, 0}, {0, 3, 3}, {0, 4, 2}, {0, 5, 1}, {0, 6, 0}, {0, 0, 40},
            {-1, 0, 1}, {0, -1, 1}, {0, 0, -1}, {-1, 0, 0}, {0, -1, 0}, {MIN, 0, 1}, {0, MIN, 1}, {0, 0, MIN},
            {MAX, 0, 1}, {0, MAX, 1}, {0, 0, MAX}, {1, 1, MAX}, {MAX, MAX, MAX}, {MIN, MIN, MIN}, {MAX, 0, MIN}, {MAX, 0, 2},
        };
        for (int[] one : bad) {
            String what = "from " + one[0] + " to " + one[1] + ", " + one[2];
            s.refused(what, Lands::rich, x -> x.copy(0, one[0], 2, one[1], one[2]), Due.BEYOND);
        }
        s.refused("to a shorter one", Lands::rich, x -> x.copy(2, 0, 0, 0, 4), Due.BEYOND);
        s.refused("over its own end", Lands::rich, x -> x.copy(0, 0, 0, 1, 3), Due.BEYOND);
    }

    private static DownhillPost wide() {
        DownhillPost x = Lands.rich();
        x.sheet(3, 64, 2);
        return x;
    }

    private void promise41() {
        s.promise(41, "Numbers of a sheet are HEIGHTS of VILLAGES 0, 1, .. (those that aren't 0 to 9999, or stand"
            + " for none, are left out): how many came.");
        long[] left = {-1, 10000, 1L << 32, (1L << 32) + 5, -(1L << 32), Long.MIN_VALUE, Long.MAX_VALUE, 65536};
        for (long one : left) {
            DownhillPost x = sheet(Lands.rich(), 64, one, 0, one, 9999);
            s.due("two of four with " + one, x.lays(0), 2);
            int[] heights = {900, 0, 500, 9999, 0, 50};
            for (int village = 0; village < 6; village++) {
                s.due("height of " + village, x.villageOf(village, 0), heights[village]);
            }
            s.due("the sheet as it was", x.write(0, 0, 0), one);
        }
        DownhillPost more = sheet(Lands.rich(), 16, 1, 2, 3, 4, 5, 6, 7, 8);
        s.due("more than villages", more.lays(0), 6);
        s.due("the last", more.villageOf(5, 0), 6);
        s.due("no new ones", more.count(0), 6);
        s.due("no hermit's less", more.villageOf(1, 1), 1);
        DownhillPost narrow = sheet(Lands.rich(), 8, 127, 200);
        s.due("200 is below 0 in 8 bits", narrow.lays(0), 1);
        s.due("127", narrow.villageOf(0, 0), 127);
        s.due("none of none", sheet(Lands.rich(), 8).lays(0), 0);
        s.due("none without villages", sheet(new DownhillPost(), 8, 1, 2).lays(0), 0);
        s.due("40 for 12", laysForty(), 12);

        s.promise(41, "BEYOND: no such sheet.");
        for (int sheet : NO_SHEET) {
            s.refused("sheet " + sheet, Lands::rich, x -> x.lays(sheet), Due.BEYOND);
        }

        s.promise(41, "MISSING.");
        s.refused("sheet 3", Lands::rich, x -> x.lays(3), Due.MISSING);
    }

    private static int laysForty() {
        DownhillPost x = Lands.full();
        return x.lays(3);
    }

    private void promise42() {
        s.promise(42, "A table: least() of POST of a KIND from a VILLAGE to VILLAGES 0, 1, .. (-1: it can't) comes"
            + " to a sheet, as far as it has numbers: how many.");
        for (int bits : new int[] {8, 16, 64}) {
            DownhillPost x = sheet(Lands.rich(), bits, 9, 9, 9, 9, 9, 9, 77);
            s.due("six", x.table(0, LETTER, 4), 6);
            numbers(x, 0, 1, 4, 6, 10, 0, -1, 77);
            s.due("no finding", x.status(-1), 0);
        }
        DownhillPost x = Lands.rich();
        s.due("three", x.table(0, LETTER, 4), 3);
        numbers(x, 0, 1, 4, 6);
        s.due("of none", sheet(Lands.rich(), 8).table(0, LETTER, 4), 0);
        DownhillPost far = Lands.longWay(0);
        far.sheet(0, 8, 12);
        far.sheet(1, 16, 40);
        s.due("twelve", far.table(0, HEAVY, 1), 12);
        s.due("twelve of 40", far.table(1, HEAVY, 1), 12);
        s.due("201 in 16 bits", far.write(1, 0, 0), 201);
        s.due("201 in 8 bits", far.write(0, 0, 0), -55);
        s.due("126 in 8 bits", far.write(0, 8, 0), 126);
        s.due("144 in 8 bits", far.write(0, 9, 0), -112);
    }

    private void promise42Bounds() {
        s.promise(42, "BEYOND: no such sheet.");
        for (int sheet : NO_SHEET) {
            s.refused("sheet " + sheet, Lands::rich, x -> x.table(sheet, LETTER, 0), Due.BEYOND);
        }

        s.promise(42, "MISSING.");
        s.refused("sheet 3", Lands::rich, x -> x.table(3, LETTER, 0), Due.MISSING);

        s.promise(42, "BEYOND: kind, from.");
        for (int kind : NO_KIND) {
            s.refused("kind " + kind, Lands::rich, x -> x.table(0, kind, 0), Due.BEYOND);
        }
        for (int village : NO_VILLAGE) {
            s.refused("from " + village, Lands::rich, x -> x.table(0, LETTER, village), Due.BEYOND);
        }
        s.due("no villages", sheet(new DownhillPost(), 8).table(0, LETTER, 0), Due.BEYOND);
    }

    private void reads(String what, DownhillPost land, int kind, int answer, long... numbers) {
        s.due(what, sheet(land, 64, numbers).read(0, kind), answer);
    }

    private void promise43() {
        s.promise(43, "THE READER: numbers of a sheet are VILLAGES through which, one behind the other, POST of a"
            + " KIND goes by ROADS alone: 0 if so; else 1 and the place of the first that is no VILLAGE, or to"
            + " which it doesn't go from the one ahead.");
        reads("none", Lands.rich(), LETTER, 0);
        reads("none, no villages", new DownhillPost(), LETTER, 0);
        reads("one", Lands.rich(), LETTER, 0, 5);
        reads("a way", Lands.rich(), LETTER, 0, 0, 1, 2, 3, 4);
        reads("up", Lands.rich(), LETTER, 5, 0, 1, 2, 3, 2);
        reads("no road", Lands.rich(), LETTER, 2, 0, 2);
        reads("no balloon", Lands.rich(), LETTER, 2, 4, 0);
        reads("the same one", Lands.rich(), FEATHER, 2, 3, 3);
        reads("a bill begins at a hermit's", Lands.rich(), BILL, 0, 2, 3);
        reads("but doesn't go to one", Lands.rich(), BILL, 2, 1, 2);
        reads("on the level", Lands.five(), LETTER, 2, 1, 2);
        reads("a feather on the level", Lands.five(), FEATHER, 0, 1, 2, 1, 2, 3);
        for (long none : new long[] {-1, 6, 12, 1L << 32, (1L << 32) + 1, Long.MIN_VALUE, Long.MAX_VALUE}) {
            reads("no village at first " + none, Lands.rich(), LETTER, 1, none, 0);
            reads("no village " + none, Lands.rich(), LETTER, 2, 0, none);
        }
        reads("the first of several faults", Lands.rich(), LETTER, 3, 0, 1, 0, -1);
        long[] forty = new long[40];
        for (int i = 0; i < 40; i++) {
            forty[i] = 1 + i % 2;
        }
        reads("40", Lands.five(), FEATHER, 0, forty);
        forty[39] = 3;
        reads("the 40th", Lands.five(), FEATHER, 40, forty);
        DownhillPost asks = sheet(Lands.rich(), 8, 0, 1);
        s.due("only asks", asks.read(0, LETTER), 0);
        s.sameAs("read", asks, sheet(Lands.rich(), 8, 0, 1));
    }

    private void promise43Bounds() {
        s.promise(43, "BEYOND: no such sheet.");
        for (int sheet : NO_SHEET) {
            s.refused("sheet " + sheet, Lands::rich, x -> x.read(sheet, LETTER), Due.BEYOND);
        }

        s.promise(43, "MISSING.");
        s.refused("sheet 3", Lands::rich, x -> x.read(3, LETTER), Due.MISSING);

        s.promise(43, "BEYOND: kind.");
        for (int kind : NO_KIND) {
            s.refused("kind " + kind, Lands::rich, x -> x.read(0, kind), Due.BEYOND);
        }
        s.due("though it has no numbers", sheet(new DownhillPost(), 8).read(0, 6), Due.BEYOND);
    }
}
