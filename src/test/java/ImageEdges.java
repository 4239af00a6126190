/** Images and counts: promises 44 to 48. */
final class ImageEdges {
    private static final int MIN = Integer.MIN_VALUE;
    private static final int MAX = Integer.MAX_VALUE;

    private final Sentences s;

    ImageEdges(Sentences s) {
        this.s = s;
    }

    void all() {
        promise44();
        promise45();
        promise46();
        promise47();
        promise48();
    }

    private static void changeAll(DownhillPost x) {
        x.village(3);
        x.slide(0, 1);
        x.hermit(0, true);
        x.road(0, 4, 2);
        x.every(3);
        x.send(Lands.BILL, 0, 1);
        x.turn(1, Lands.QUICK);
        x.days(9);
        x.day(77);
    }

    private void promise44() {
        s.promise(44, "All that section 1 tells (THE TAPE not) is kept: 1.");
        DownhillPost x = Lands.rich();
        s.due("kept", x.image(), 1);
        changeAll(x);
        x.undo();
        s.sameAs("all of it", x, Lands.rich());
        DownhillPost other = Lands.rich();
        other.image();
        Lands.feed(other, "9");
        other.write(0, 0, 55);
        other.sheet(1, 0, 0);
        other.undo();
        s.due("the tape not", other.count(3), 8);
        s.due("nor its bytes", other.text(), 1);
        s.due("every 99", other.now(1), 99);
        s.due("nor numbers", other.write(0, 0, 0), 55);
        s.due("nor sheets", other.lays(1), Due.MISSING);
        DownhillPost full = Lands.full();
        s.due("a full land", full.image(), 1);
        changeAll(full);
        full.undo();
        s.sameAs("a full land", full, Lands.full());
        s.due("an empty one", new DownhillPost().image(), 1);
    }

    private void promise45() {
        s.promise(45, "It becomes what was kept latest (which stays): how many VILLAGES.");
        DownhillPost x = Lands.rich();
        s.due("five", x.undo(), 5);
        changeAll(x);
        s.due("it stays", x.undo(), 5);
        s.due("again", x.undo(), 5);
        s.due("the day", x.now(0), 5);
        s.due("the letters", x.count(2), 3);
        x.village(1);
        x.image();
        x.village(1);
        s.due("the latest", x.undo(), 6);
        s.due("count", x.count(0), 6);
        DownhillPost empty = new DownhillPost();
        empty.image();
        empty.village(5);
        s.due("an empty one", empty.undo(), 0);
        s.due("no villages", empty.sea(), Due.NONE);
        DownhillPost full = Lands.full();
        s.due("a full one", full.undo(), 12);

        s.promise(45, "NONE: nothing is kept.");
        s.refused("never", Lands::five, DownhillPost::undo, Due.NONE);
        s.refused("no more", ImageEdges::torn, DownhillPost::undo, Due.NONE);
    }

    private static DownhillPost torn() {
        DownhillPost x = Lands.rich();
        x.tear();
        return x;
    }

    private void promise46() {
        s.promise(46, "Nothing is kept: 1 if something was, else 0.");
        DownhillPost x = Lands.rich();
        x.image();
        s.due("something", x.tear(), 1);
        s.due("nothing, not the one before either", x.tear(), 0);
        s.due("nothing is kept", x.undo(), Due.NONE);
        s.due("nothing ever was", new DownhillPost().tear(), 0);
        s.sameAs("torn", torn(), Lands.rich());
        x.image();
        s.due("something again", x.tear(), 1);
        DownhillPost undone = Lands.rich();
        undone.undo();
        s.due("what was undone is kept still", undone.tear(), 1);
        DownhillPost empty = new DownhillPost();
        empty.image();
        s.due("an empty land is something", empty.tear(), 1);
    }

    private void promise47() {
        s.promise(47, "0 VILLAGES, 1 ROADS, 2 LETTERS, 3 bytes of THE TAPE, 4 HEIGHTS of all together.");
        int[] rich = {6, 6, 4, 7, 2150};
        int[] full = {12, 24, 10, 120, 6600};
        for (int what = 0; what < 5; what++) {
            int w = what;
            s.due("empty " + w, new DownhillPost().count(w), 0);
            s.onlyAsks("rich " + w, Lands::rich, x -> x.count(w), rich[w]);
            s.onlyAsks("full " + w, Lands::full, x -> x.count(w), full[w]);
        }
        int[] highest = new int[12];
        java.util.Arrays.fill(highest, 9999);
        s.due("all of 9999", Lands.heights(highest).count(4), 119988);

        s.promise(47, "BEYOND: another what.");
        for (int what : new int[] {MIN, -1, 5, MAX}) {
            s.refused("what " + what, Lands::rich, x -> x.count(what), Due.BEYOND);
        }
    }

    /** One BEYOND, two FULL, and so on to seven SIZE. */
    private static DownhillPost findings() {
        DownhillPost x = Lands.full();
        for (int times = 1; times <= 7; times++) {
            for (int which = times - 1; which < 7; which++) {
                find(x, which);
            }
        }
        return x;
    }

    private static void find(DownhillPost x, int which) {
        switch (which) {
            case 0: x.village(-1); break;
            case 1: x.village(5); break;
            case 2: x.as(0, 1); break;
            case 3: x.least(Lands.SECRET, 11, 0); break;
            case 4: x.road(1, 0, 1); break;
            case 5: x.lays(0); break;
            default: x.sheet(0, 8, -1);
        }
    }

    private void promise48() {
        s.promise(48, "How many acts answered a finding ever (undo() takes none back): which -1: all, 0 to 6:"
            + " BEYOND to SIZE.");
        DownhillPost x = findings();
        for (int which = 0; which < 7; which++) {
            s.due("which " + which, x.status(which), which + 1);
        }
        s.due("all", x.status(-1), 28);
        x.undo();
        s.due("none is taken back", x.status(-1), 28);
        x.wipe();
        x.tear();
        s.due("asking is no finding", x.status(-1), 28);
        s.due("none at first", new DownhillPost().status(-1), 0);
        DownhillPost text = Lands.rich();
        Lands.text(text, "!");
        s.due("a fault is none", text.status(-1), 0);
        DownhillPost numbers = new DownhillPost();
        numbers.sheet(0, 64, 1);
        numbers.write(0, 0, Due.BEYOND);
        numbers.write(0, 0, Due.MISSING);
        s.due("a number that looks like one", numbers.write(0, 0, 0), Due.MISSING);
        s.due("is none", numbers.status(-1), 0);
        DownhillPost table = Lands.rich();
        table.table(0, Lands.SECRET, 4);
        table.next(1);
        s.due("nor is -1", table.status(-1), 0);

        s.promise(48, "BEYOND (counted from then on): another one.");
        for (int which : new int[] {MIN, -2, 7, 8, MAX}) {
            s.refused("which " + which, Lands::rich, y -> y.status(which), Due.BEYOND);
        }
        DownhillPost counted = new DownhillPost();
        s.due("another one", counted.status(7), Due.BEYOND);
        s.due("from then on", counted.status(0), 1);
        s.due("another one", counted.status(-2), Due.BEYOND);
        s.due("all", counted.status(-1), 2);
    }
}
