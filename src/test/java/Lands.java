/** Lands that several tests begin with. */
final class Lands {
    static final int LETTER = 0;
    static final int QUICK = 1;
    static final int HEAVY = 2;
    static final int FEATHER = 3;
    static final int BILL = 4;
    static final int SECRET = 5;

    private Lands() {
    }

    /** Villages of these heights, no roads. */
    static DownhillPost heights(int... heights) {
        DownhillPost x = new DownhillPost();
        for (int height : heights) {
            x.village(height);
        }
        return x;
    }

    /** Five villages, 0 the peak, 4 the sea, 1 and 2 of the same height; the valley 3 has two roads from above. */
    static DownhillPost five() {
        DownhillPost x = heights(900, 500, 500, 100, 0);
        x.road(0, 1, 3);
        x.road(1, 2, 2);
        x.road(2, 3, 4);
        x.road(3, 4, 1);
        x.road(0, 3, 9);
        return x;
    }

    /** From 1 to 2 by road in 9 days, by the sea (3) and the peak (0) sooner, if the balloon goes. */
    static DownhillPost balloonRather() {
        DownhillPost x = heights(900, 500, 300, 0);
        x.road(1, 2, 9);
        x.road(1, 3, 1);
        x.road(0, 2, 1);
        x.every(1);
        return x;
    }

    /** A heavy letter ten roads of 18 days down to the sea; the balloon that it waits for is at the peak on 201. */
    static DownhillPost longWay(int day) {
        DownhillPost x = heights(12, 11, 10, 9, 8, 7, 6, 5, 4, 3, 2, 1);
        for (int i = 1; i < 11; i++) {
            x.road(i, i + 1, 9);
        }
        x.every(50);
        x.day(day);
        x.send(HEAVY, 1, 0);
        x.send(SECRET, 1, 0);
        x.send(QUICK, 1, 11);
        return x;
    }

    /**
     * Something of everything, and an image of something else: six villages, six roads, four letters (0 on its way
     * into 3, 1 that can never come, 2 there, 3 on its way), a text on the tape, sheets 0 and 2 of 8 bits, 1 of 16.
     */
    static DownhillPost rich() {
        DownhillPost x = five();
        x.hermit(2, true);
        x.every(5);
        x.day(3);
        x.send(LETTER, 0, 4);
        x.send(SECRET, 4, 0);
        x.send(BILL, 3, 3);
        x.days(2);
        x.image();
        x.village(50);
        x.slide(1, 600);
        x.hermit(1, true);
        x.road(5, 4, 2);
        x.every(6);
        x.send(QUICK, 0, 1);
        x.turn(0, HEAVY);
        x.days(1);
        feed(x, "every 9");
        x.sheet(0, 8, 3);
        x.sheet(1, 16, 2);
        x.sheet(2, 8, 5);
        for (int i = 0; i < 3; i++) {
            x.write(0, i, i + 1);
            x.write(2, i, 40 - i);
        }
        x.write(1, 0, 300);
        return x;
    }

    /** As many villages, roads, letters, bytes and numbers as there may be. */
    static DownhillPost full() {
        DownhillPost x = heights(1100, 1000, 900, 800, 700, 600, 500, 400, 300, 200, 100, 0);
        for (int i = 0; i < 12; i++) {
            x.road(i, (i + 1) % 12, 9);
            x.road(i, (i + 5) % 12, 9);
        }
        for (int i = 0; i < 10; i++) {
            x.send(i % 6, i + 1, i);
        }
        x.image();
        x.sheet(3, 64, 40);
        feed(x, "every 9");
        x.feed(0x20, 1);
        for (int i = 0; i < 28; i++) {
            x.feed(0x20202020, 4);
        }
        return x;
    }

    static void feed(DownhillPost x, String text) {
        for (int i = 0; i < text.length(); i++) {
            x.feed(text.charAt(i), 1);
        }
    }

    static int text(DownhillPost x, String text) {
        feed(x, text);
        return x.text();
    }
}
