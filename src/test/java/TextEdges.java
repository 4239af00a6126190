/** The tape and the text of a land: the terms of these, and promises 35 to 37. */
final class TextEdges {
    private static final int MIN = Integer.MIN_VALUE;
    private static final int MAX = Integer.MAX_VALUE;
    private static final String[] KINDS = {"letter", "quick", "heavy", "feather", "bill", "secret"};

    private final Sentences s;

    TextEdges(Sentences s) {
        this.s = s;
    }

    void all() {
        tape();
        tokens();
        items();
        villageItem();
        roadItem();
        slideAndEveryItem();
        letterItem();
        faults();
        fullLands();
        endings();
        promise35();
        promise36();
        promise37();
        promise37Faults();
    }

    /** Villages 0 to 2 and a road between 0 and 1. */
    private static DownhillPost three() {
        DownhillPost x = Lands.heights(5, 4, 3);
        x.road(0, 1, 1);
        return x;
    }

    private void reads(String text, int items) {
        s.due("'" + text + "'", Lands.text(three(), text), items);
    }

    private void fault(String text, int place) {
        s.due("'" + text + "'", Lands.text(three(), text), -1 - place);
    }

    private void tape() {
        s.terms("THE TEXT of a LAND, from THE TAPE (bytes, at most 120).");
        String villages = "village 1;".repeat(11);
        DownhillPost x = new DownhillPost();
        Lands.feed(x, villages + "village 1 ");
        s.due("120 bytes", x.count(3), 120);
        s.due("no more", x.feed('x', 1), Due.FULL);
        s.due("are a text", x.text(), 12);
        s.due("of twelve villages", x.count(0), 12);
        DownhillPost last = new DownhillPost();
        Lands.feed(last, villages + "village  5");
        s.due("the last byte, too", last.text(), 12);
        s.due("is read", last.villageOf(11, 0), 5);
        s.due("of no bytes", new DownhillPost().text(), -1);
    }

    private void tokens() {
        s.terms("TOKENS, each as long as can be: WORDS (letters a to z), NUMBERS (digits, 9999 at most), SIGN ; ;"
            + " blanks may stand between.");
        reads("village 9999", 1);
        fault("village 10000", 8);
        fault("village 99990", 8);
        // Too much in 32 and in 64 bits, so that what is left of it would be 5.
        fault("village 4294967301", 8);
        fault("village 18446744073709551621", 8);
        fault("village " + "9".repeat(112), 8);
        reads("village 0", 1);
        reads("village 0000000000000000009999", 1);
        fault("villages 5", 0);
        fault("villagez 5", 0);
        fault("villagea 5", 0);
        fault("villag 5", 0);
        fault("village 5hermits", 9);
        fault("villagevillage 5", 0);
        fault("slide 02", 8);
                reads("village5hermit;village6;road2to1days3;slide0 7;every8;bill0to1", 6);
        reads("  village   5   hermit  ;  every   9  ", 2);
        reads("every 9;every 8;every 7", 3);
        fault("vil lage 5", 0);
        reads("every 99", 1);
        fault("every 9 9", 8);
        // The bytes on both sides of a to z, 0 to 9, ; and the blank.
        for (int none : new int[] {0, 9, 10, 13, 31, 33, '/', ':', '<', '@', 'A', 'Z', '`', '{', 127, 128, 160, 255}) {
            fault("every 5" + (char) none, 7);
            fault("every" + (char) none + "5", 5);
            fault("every" + (char) none + " 5", 5);
            fault("every 5 ;" + (char) none + "every 5", 9);
            fault((char) none + "every 5", 0);
        }
    }

    private void items() {
        s.terms("TEXT: ITEM { ; ITEM }.");
        reads("every 5", 1);
        reads("every 5;every 6", 2);
        reads("every 5" + ";every 6".repeat(14), 15);
        fault(";", 0);
        fault(";every 5", 0);
        fault("every 5;", 8);
        fault("every 5 ; ", 10);
        fault("every 5;;every 6", 8);
        fault("every 5 every 6", 8);
        DownhillPost x = three();
        Lands.text(x, "every 5;every 6;slide 0 8;slide 0 9");
        s.due("the later counts", x.now(1), 6);
        s.due("the later counts", x.villageOf(0, 0), 9);
    }

    private void villageItem() {
        s.terms("ITEM: village, a NUMBER (HEIGHT), perhaps hermit: a new one; road, a NUMBER, to, a NUMBER (two"
            + " unlike VILLAGES there by then, between which there is none), perhaps days and a NUMBER (1 to 9; 1"
            + " without): a new ROAD; slide, a NUMBER (a VILLAGE there by then), a NUMBER (its HEIGHT from then"
            + " on); every and a NUMBER (1 to 99); the name of a KIND (letter quick heavy feather bill secret), a"
            + " NUMBER, to, a NUMBER (two VILLAGES there by then): a new LETTER, SENT on DAY.");
        DownhillPost x = three();
        s.due("lowest and highest", Lands.text(x, "village 0;village 9999 hermit"), 2);
        s.due("0", x.villageOf(3, 0), 0);
        s.due("not at first", x.villageOf(3, 1), 0);
        s.due("9999", x.villageOf(4, 0), 9999);
        s.due("a hermit's", x.villageOf(4, 1), 1);
        fault("village", 7);
        fault("village hermit", 8);
        fault("village 5 hermit hermit", 17);
        fault("village hermit 5", 8);
        fault("hermit 0", 0);
        fault("village 5 6", 10);
    }

    private void roadItem() {
        DownhillPost x = three();
        s.due("1 to 9, 1 without", Lands.text(x, "road 2 to 0 days 9;road 1 to 2"), 2);
        s.due("as told", x.roadOf(1, 0), 2);
        s.due("as told", x.roadOf(1, 1), 0);
        s.due("9", x.roadOf(1, 2), 9);
        s.due("1 without", x.roadOf(2, 2), 1);
        reads("road 0 to 2 days 1", 1);
        fault("road 0 to 2 days 0", 17);
        fault("road 0 to 2 days 10", 17);
        fault("road 0 to 2 days", 16);
        fault("road 0 to 2 9", 12);
        fault("road 0 to 0", 10);
        fault("road 0 to 1", 10);
        fault("road 1 to 0", 10);
        fault("road 3 to 0", 5);
        fault("road 0 to 3", 10);
        fault("road 3 to 3", 5);
        fault("road 0 2", 7);
        fault("road to 2", 5);
        reads("village 1;road 3 to 0", 2);
        fault("road 3 to 0;village 1", 5);
        fault("village 1;road 0 to 3;road 3 to 0", 32);
        s.due("none there", Lands.text(new DownhillPost(), "road 0 to 1"), -6);
    }

    private void slideAndEveryItem() {
        DownhillPost x = three();
        s.due("slide", Lands.text(x, "slide 0 0;slide 2 9999"), 2);
        s.due("0", x.villageOf(0, 0), 0);
        s.due("9999", x.villageOf(2, 0), 9999);
        fault("slide 3 5", 6);
        fault("slide 0 10000", 8);
        fault("slide 0 to 5", 8);
        fault("slide 0 5 hermit", 10);
        reads("village 1;slide 3 5", 2);
        fault("slide 3 5;village 1", 6);
        s.due("every", Lands.text(x, "every 1"), 1);
        s.due("1", x.now(1), 1);
        s.due("every", Lands.text(x, "every 99"), 1);
        s.due("99", x.now(1), 99);
        fault("every 0", 6);
        fault("every 100", 6);
        fault("every every", 6);
    }

    private void letterItem() {
        DownhillPost x = three();
        x.day(9999);
        for (int kind = 0; kind < 6; kind++) {
            s.due(KINDS[kind], Lands.text(x, KINDS[kind] + " 2 to " + kind % 3), 1);
            int[] of = {kind, 2, kind % 3, 9999, 0, kind % 3 == 2 ? 1 : 0};
            for (int what = 0; what < 6; what++) {
                s.due(KINDS[kind] + " what " + what, x.of(kind, what), of[what]);
            }
        }
        reads("letter 0 to 0", 1);
        fault("letter 3 to 0", 7);
        fault("letter 0 to 3", 12);
        fault("letter 0 0", 9);
        fault("letter 0 to 1 days 3", 14);
        reads("village 1;bill 3 to 3", 2);
        fault("bill 3 to 3;village 1", 5);
        fault("letters 0 to 1", 0);
        fault("post 0 to 1", 0);
    }

    private void faults() {
        s.terms("FAULT: the place (from 0) of the first byte of the first TOKEN that can't stand there (a NUMBER"
            + " that may not be, another WORD, a byte that begins no TOKEN, village for a 13th, road for a 25th,"
            + " the name of a KIND for an 11th LETTER: its own), or how many bytes there are if it ends too early.");
        fault("x", 0);
        fault("   x", 3);
        fault("7", 0);
        fault("every   100", 8);
        fault("every   year", 8);
        fault("every   ;", 8);
        fault("every   !", 8);
        fault("every 100;every 0;!", 6);
        fault("!every 100", 0);
        fault("every 5;x", 8);
        fault("every 5;every 5;every 500", 22);
        fault("slide 9 99999", 6);
        otherWords();
    }

    /** Each word of an item with one letter changed; where it stands it can't stand so. */
    private void otherWords() {
        String[] items = {
            "village 5 hermit", "road 0 to 2 days 3", "slide 0 5", "every 5", "letter 0 to 1", "quick 0 to 1", "heavy 0 to 1",
            "feather 0 to 1", "bill 0 to 1", "secret 0 to 1",
        };
        for (String item : items) {
            reads(item, 1);
            int word = 0;
            for (int i = 0; i < item.length(); i++) {
                char one = item.charAt(i);
                if (!Character.isLetter(one)) {
                    word = i + 1;
                } else {
                    fault(item.substring(0, i) + (one == 'z' ? 'y' : 'z') + item.substring(i + 1), word);
                }
            }
        }
    }

    private void fullLands() {
        DownhillPost villages = Lands.heights(1, 1, 1, 1, 1, 1, 1, 1, 1, 1, 1);
        s.due("a 13th in a text", Lands.text(villages, "village 1; village 2"), -12);
        s.due("a 12th", Lands.text(villages, "village 1"), 1);
        s.due("a 13th", Lands.text(villages, "village"), -1);
        s.due("a 13th, too high", Lands.text(villages, "  village 10000"), -3);
        DownhillPost x = Lands.full();
        x.wipe();
        s.due("a 25th", Lands.text(x, "road 0 to 2"), -1);
        s.due("a 25th that couldn't be", Lands.text(x, "every 5;road 99 to 99"), -9);
        s.due("a 25th without more", Lands.text(x, "road"), -1);
        s.due("slides still", Lands.text(x, "slide 11 5;every 5"), 2);
        for (String kind : KINDS) {
            s.due("an 11th", Lands.text(x, " " + kind + " 0 to 0"), -2);
        }
        s.due("an 11th that couldn't be", Lands.text(x, "every 5;bill 99 days"), -9);
        DownhillPost nine = Lands.heights(1);
        for (int i = 0; i < 9; i++) {
            nine.send(0, 0, 0);
        }
        s.due("an 11th in a text", Lands.text(nine, "quick 0 to 0;heavy 0 to 0"), -14);
        s.due("a 10th", Lands.text(nine, "quick 0 to 0"), 1);
        DownhillPost roads = Lands.heights(1, 1, 1, 1, 1, 1, 1, 1);
        for (int one = 0; one < 8; one++) {
            for (int other = one + 1; other < 8 && roads.count(1) < 23; other++) {
                roads.road(one, other, 1);
            }
        }
        s.due("a 25th in a text", Lands.text(roads, "road 5 to 6;road 6 to 7"), -13);
        s.due("a 24th", Lands.text(roads, "road 5 to 6"), 1);
    }

    private void endings() {
        String[] early = {
            "", " ", "village", "village ", "road", "road 0", "road 0 to", "road 0 to 2 days", "slide", "slide 0", "slide 0  ",
            "every", "letter", "quick 0", "heavy 0 to", "every 5;", "every 5;  ", "every 5;road 0 to 2 days  ",
        };
        for (String text : early) {
            fault(text, text.length());
        }
        String most = "every 5;".repeat(14);
        fault(most + "every   ", 120);
        fault(most + "every 5;", 120);
        // Where it needn't end yet it may.
        reads("road 0 to 2", 1);
        reads("village 5", 1);
    }

    private void promise35() {
        s.promise(35, "THE TAPE gets the n lowest bytes of a number behind it, the highest of these first (n 1 to"
            + " 4): how many it has.");
        DownhillPost x = new DownhillPost();
        s.due("2", x.feed(0xffff6576, 2), 2);
        s.due("3 behind it", x.feed(0xff657279, 3), 5);
        s.due("1 behind these", x.feed(0xffffff20, 1), 6);
        s.due("4 behind these", x.feed(0x20203838, 4), 10);
        s.due("every   88", x.text(), 1);
        s.due("is", x.now(1), 88);
        x.feed(0x65766572, 4);
        x.feed(0x7920ff39, 4);
        s.due("a byte above 127 is one", x.text(), -7);
        s.due("behind an empty one", x.feed(MIN, 4), 4);

        s.promise(35, "BEYOND: n.");
        for (int n : new int[] {MIN, -4, -1, 0, 5, 8, 32, MAX}) {
            s.refused("n " + n, Lands::rich, y -> y.feed(0x20202020, n), Due.BEYOND);
        }

        s.promise(35, "FULL.");
        for (int n = 1; n <= 4; n++) {
            int bytes = n;
            s.refused("no room for " + n, Lands::full, y -> y.feed(0x20202020, bytes), Due.FULL);
            s.refused("room for one less than " + n, () -> fed(121 - bytes), y -> y.feed(0, bytes), Due.FULL);
            s.due("just room for " + n, fed(120 - n).feed(0, n), 120);
        }
    }

    private static DownhillPost fed(int bytes) {
        DownhillPost x = new DownhillPost();
        Lands.feed(x, "every 9");
        for (int i = 7; i < bytes; i++) {
            x.feed(' ', 1);
        }
        return x;
    }

    private void promise36() {
        s.promise(36, "THE TAPE is empty: how many it had.");
        DownhillPost x = Lands.rich();
        s.due("had", x.wipe(), 7);
        s.due("has", x.count(3), 0);
        s.due("had none", x.wipe(), 0);
        s.due("nothing of it is read", Lands.text(x, "every 8"), 1);
        s.due("full", Lands.full().wipe(), 120);
        DownhillPost full = Lands.full();
        full.wipe();
        s.due("room again", full.feed(0, 4), 4);
    }

    private void promise37() {
        s.promise(37, "THE TAPE is THE TEXT of a LAND, whose ITEMS come to what there is, and empty then: how many"
            + " ITEMS.");
        DownhillPost x = Lands.rich();
        s.due("one", x.text(), 1);
        s.due("every", x.now(1), 9);
        s.due("the tape", x.count(3), 0);
        s.due("the villages that there were", x.count(0), 6);
        DownhillPost told = new DownhillPost();
        s.due("a land", Lands.text(told, "village 9 hermit;village 0;road 0 to 1 days 7;every 4;slide 1 3;bill 0 to 1"), 6);
        DownhillPost made = new DownhillPost();
        made.village(9);
        made.hermit(0, true);
        made.village(3);
        made.road(0, 1, 7);
        made.every(4);
        made.send(Lands.BILL, 0, 1);
        s.sameAs("a land told and one made", told, made);
        DownhillPost undone = Lands.rich();
        undone.text();
        s.due("what is kept stays", undone.undo(), 5);
        s.due("as it was", undone.now(1), 5);
    }

    private void promise37Faults() {
        s.promise(37, "With a FAULT: -1 less its place (nothing changes but that THE TAPE is empty; no finding).");
        String[] texts = {"", "x", "village 5 5", "village 1;village 2 hermit;road 6 to 7;slide 0 1;every 3;bill 0 to 6;road 0 to 6;!"};
        int[] answers = {-1, -1, -11, -82};
        for (int i = 0; i < texts.length; i++) {
            DownhillPost x = Lands.rich();
            x.wipe();
            DownhillPost twin = Lands.rich();
            twin.wipe();
            s.due("'" + texts[i] + "'", Lands.text(x, texts[i]), answers[i]);
            s.due("the tape", x.count(3), 0);
            s.due("no finding", x.status(-1), 0);
            s.sameAs("a fault", x, twin);
        }
        DownhillPost full = Lands.full();
        full.wipe();
        s.due("at the end of 120 bytes", Lands.text(full, " ".repeat(120)), -121);
        s.due("the tape", full.count(3), 0);
        s.due("no finding", full.status(-1), 0);
    }
}
