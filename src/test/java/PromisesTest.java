/** Each promise by itself, with answers that were found by hand from the document. */
public final class PromisesTest {
    private static final long BEYOND = Due.BEYOND;
    private static final long FULL = Due.FULL;
    private static final long KIND = Due.KIND;
    private static final long NONE = Due.NONE;
    private static final long STATE = Due.STATE;
    private static final long MISSING = Due.MISSING;
    private static final long SIZE = Due.SIZE;
    private static final int LETTER = Lands.LETTER;
    private static final int QUICK = Lands.QUICK;
    private static final int HEAVY = Lands.HEAVY;
    private static final int FEATHER = Lands.FEATHER;
    private static final int BILL = Lands.BILL;
    private static final int SECRET = Lands.SECRET;
    private static final int MIN = Integer.MIN_VALUE;
    private static final int MAX = Integer.MAX_VALUE;

    private static final Due DUE = new Due();

    public static void main(String[] args) {
        theLand();
        whereByWhen();
        lettersAndDays();
        theText();
        sheets();
        images();
        DUE.end("PromisesTest");
    }

    private static void due(String what, long got, long want) {
        DUE.due(what, got, want);
    }

    private static void theLand() {
        promise1();
        promise2();
        promise3();
        promise4();
        promise5();
        promise6();
        promise7();
        promise8();
        promise9and10();
    }

    private static void whereByWhen() {
        promise11();
        promise12();
        promise13();
        promise14to16();
        promise17();
        promise18();
        promise19();
        promise20();
        promise21();
        promise22();
        promise23();
    }

    private static void lettersAndDays() {
        promise24();
        promise25();
        promise26();
        promise27();
        promise28();
        promise29();
        promise30();
        promise31();
        promise32();
        promise33();
        promise34();
        wayOfADay();
    }

    private static void theText() {
        promise35and36();
        promise37();
        textItems();
        textFaults();
        textRoom();
    }

    private static void sheets() {
        promise38();
        promise39();
        promise40();
        promise41();
        promise42();
        promise43();
    }

    private static void images() {
        promise44to46();
        promise47();
        promise48();
        readme();
    }

    private static void readme() {
        DownhillPost post = Lands.heights(900, 500, 0);
        post.road(0, 1, 3);
        post.road(1, 2, 2);
        due("readme", post.least(0, 1, 0), 8);
        post.send(0, 1, 0);
        due("readme", post.days(8), 1);
    }

    private static void promise1() {
        DownhillPost x = new DownhillPost();
        for (int what = 0; what <= 4; what++) {
            due("1 count(" + what + ")", x.count(what), 0);
        }
        due("1 day", x.now(0), 0);
        due("1 every", x.now(1), 7);
        due("1 status", x.status(-1), 0);
        due("1 tear", x.tear(), 0);
        due("1 undo", x.undo(), NONE);
        due("1 sheet missing", x.lays(3), MISSING);
    }

    private static void promise2() {
        DownhillPost x = new DownhillPost();
        due("2 least", x.village(0), 0);
        due("2 greatest", x.village(9999), 1);
        due("2 too low", x.village(-1), BEYOND);
        due("2 too high", x.village(10000), BEYOND);
        for (int i = 2; i < 12; i++) {
            due("2 number", x.village(i), i);
        }
        due("2 13th", x.village(5), FULL);
        due("2 13th too high", x.village(10000), BEYOND);
        due("2 count", x.count(0), 12);
        due("2 height", x.villageOf(1, 0), 9999);
        due("2 no hermit's", x.villageOf(1, 1), 0);
    }

    private static void promise3() {
        DownhillPost x = Lands.five();
        due("3 height", x.villageOf(1, 0), 500);
        due("3 hermit", x.villageOf(3, 1), 0);
        x.hermit(3, true);
        due("3 hermit", x.villageOf(3, 1), 1);
        due("3 not another", x.villageOf(2, 1), 0);
        due("3 roads", x.villageOf(3, 2), 3);
        due("3 roads of 4", x.villageOf(4, 2), 1);
        x.send(LETTER, 0, 4);
        x.send(LETTER, 3, 4);
        x.send(SECRET, 4, 0);
        x.send(LETTER, 3, 3);
        due("3 letters", x.villageOf(3, 3), 0b1010);
        due("3 letters", x.villageOf(4, 3), 0b100);
        due("3 none", x.villageOf(1, 3), 0);
        x.days(1);
        due("3 on its way", x.villageOf(0, 3), 0);
        due("3 on its way into 3", x.villageOf(3, 3), 0b1000);
        due("3 come", x.villageOf(4, 3), 0b110);
        due("3 no village", x.villageOf(5, 0), BEYOND);
        due("3 no village", x.villageOf(-1, 0), BEYOND);
        due("3 what", x.villageOf(0, 4), BEYOND);
        due("3 what", x.villageOf(0, -1), BEYOND);
    }

    private static void promise4() {
        DownhillPost x = Lands.five();
        due("4", x.slide(1, 9999), 500);
        due("4", x.slide(1, 0), 9999);
        due("4 is", x.villageOf(1, 0), 0);
        due("4 v", x.slide(1, -1), BEYOND);
        due("4 v", x.slide(1, 10000), BEYOND);
        due("4 village", x.slide(5, 1), BEYOND);
        due("4 village", x.slide(MIN, 1), BEYOND);
        due("4 unchanged", x.villageOf(1, 0), 0);
        due("4 sea", x.sea(), 1);
    }

    private static void promise5() {
        DownhillPost x = Lands.five();
        due("5 new", x.hermit(2, true), 1);
        due("5 old", x.hermit(2, true), 0);
        due("5 off", x.hermit(2, false), 1);
        due("5 off again", x.hermit(2, false), 0);
        due("5 no village", x.hermit(5, true), BEYOND);
        due("5 no village", x.hermit(-1, false), BEYOND);
        x.village(7);
        due("5 a new one isn't", x.villageOf(5, 1), 0);
    }

    private static void promise6() {
        DownhillPost x = Lands.heights(1, 2, 3, 4, 5, 6, 7, 8, 9, 10, 11, 12);
        due("6", x.road(0, 1, 1), 0);
        due("6", x.road(2, 1, 9), 1);
        due("6 the same two", x.road(1, 0, 2), STATE);
        due("6 one and the same", x.road(3, 3, 1), BEYOND);
        due("6 no days", x.road(3, 4, 0), BEYOND);
        due("6 days", x.road(3, 4, 10), BEYOND);
        due("6 beyond ahead of state", x.road(0, 1, 10), BEYOND);
        due("6 village", x.road(12, 1, 1), BEYOND);
        due("6 village", x.road(1, -1, 1), BEYOND);
        int made = 2;
        for (int one = 0; one < 12 && made < 24; one++) {
            for (int other = one + 2; other < 12 && made < 24; other++) {
                due("6 number", x.road(one, other, 1), made++);
            }
        }
        due("6 25th", x.road(10, 11, 1), FULL);
        due("6 state ahead of full", x.road(1, 2, 1), STATE);
        due("6 beyond ahead of full", x.road(10, 11, 0), BEYOND);
        due("6 count", x.count(1), 24);
    }

    private static void promise7() {
        DownhillPost x = Lands.heights(1, 2, 3);
        x.road(2, 0, 9);
        x.road(0, 1, 4);
        due("7 one", x.roadOf(0, 0), 2);
        due("7 other", x.roadOf(0, 1), 0);
        due("7 days", x.roadOf(0, 2), 9);
        due("7 other", x.roadOf(1, 1), 1);
        due("7 road", x.roadOf(2, 0), BEYOND);
        due("7 road", x.roadOf(-1, 0), BEYOND);
        due("7 what", x.roadOf(0, 3), BEYOND);
        due("7 what", x.roadOf(0, -1), BEYOND);
    }

    private static void promise8() {
        DownhillPost x = new DownhillPost();
        due("8", x.every(1), 7);
        due("8", x.every(99), 1);
        due("8 none", x.every(0), BEYOND);
        due("8 too many", x.every(100), BEYOND);
        due("8 is", x.now(1), 99);
    }

    private static void promise9and10() {
        DownhillPost x = new DownhillPost();
        due("9 none", x.sea(), NONE);
        due("10 none", x.peak(), NONE);
        x.village(5);
        due("9 one", x.sea(), 0);
        due("10 one", x.peak(), 0);
        x.village(3);
        x.village(8);
        x.village(3);
        x.village(8);
        due("9 the least of several", x.sea(), 1);
        due("10 the least of several", x.peak(), 2);
        x.slide(0, 9);
        due("10 slid", x.peak(), 0);
    }

    private static void promise11() {
        DownhillPost x = Lands.heights(5, 4, 3);
        x.road(0, 1, 5);
        x.road(1, 2, 4);
        int[] of5 = {5, 3, 10, 6, 10, 6};
        int[] of4 = {4, 2, 8, 5, 8, 5};
        for (int kind = 0; kind < 6; kind++) {
            due("11 of 5", x.needs(kind, 0), of5[kind]);
            due("11 of 4", x.needs(kind, 1), of4[kind]);
        }
        due("11 kind", x.needs(6, 0), BEYOND);
        due("11 kind", x.needs(-1, 0), BEYOND);
        due("11 road", x.needs(0, 2), BEYOND);
        due("11 road", x.needs(0, -1), BEYOND);
    }

    private static void promise12() {
        DownhillPost x = Lands.heights(5, 4, 4);
        x.road(0, 1, 5);
        x.road(1, 2, 4);
        x.hermit(1, true);
        int[] down = {1, 1, 1, 1, 0, 1};
        int[] level = {0, 0, 0, 1, 0, 1};
        for (int kind = 0; kind < 6; kind++) {
            due("12 down", x.goes(kind, 0, false), down[kind]);
            due("12 up", x.goes(kind, 0, true), 0);
            due("12 level", x.goes(kind, 1, false), level[kind]);
            due("12 level back", x.goes(kind, 1, true), level[kind]);
        }
        x.hermit(1, false);
        due("12 bill", x.goes(BILL, 0, false), 1);
        x.hermit(0, true);
        due("12 bill from a hermit", x.goes(BILL, 0, false), 1);
        due("12 kind", x.goes(6, 0, false), BEYOND);
        due("12 road", x.goes(0, 2, false), BEYOND);
        due("12 road", x.goes(0, -1, true), BEYOND);
    }

    private static void promise13() {
        DownhillPost x = Lands.five();
        due("13 itself", x.least(SECRET, 4, 4), 0);
        due("13 by the short road", x.least(LETTER, 0, 3), 9);
        due("13 bill twice", x.least(BILL, 0, 3), 18);
        due("13 balloon today", x.least(LETTER, 4, 1), 4);
        due("13 balloon on 7", x.least(LETTER, 3, 1), 11);
        x.day(6);
        due("13 from 6", x.least(LETTER, 3, 1), 5);
        x.day(7);
        due("13 from 7", x.least(LETTER, 4, 0), 1);
        x.day(8);
        due("13 from 8", x.least(LETTER, 4, 0), 7);
        due("13 no secret", x.least(SECRET, 4, 0), NONE);
        due("13 stuck", x.least(LETTER, 1, 0), NONE);
        x.hermit(0, true);
        due("13 no bill to a hermit by balloon", x.least(BILL, 4, 0), NONE);
        due("13 no bill through a hermit's", x.least(BILL, 4, 1), NONE);
        due("13 heavy", x.least(HEAVY, 4, 0), 7);
        due("13 a hermit's bill", x.least(BILL, 0, 4), 20);
        due("13 to himself", x.least(BILL, 0, 0), 0);
        x.day(9999);
        due("13 on the last day", x.least(LETTER, 3, 1), 8);
        due("13 kind", x.least(6, 0, 0), BEYOND);
        due("13 from", x.least(0, 5, 0), BEYOND);
        due("13 to", x.least(0, 0, -1), BEYOND);
        due("13 balloon rather than the long road", Lands.balloonRather().least(LETTER, 1, 2), 3);
    }

    private static void promise14to16() {
        DownhillPost x = Lands.five();
        due("14", x.reach(LETTER, 0), 0b11011);
        due("14 feather", x.reach(FEATHER, 4), 0b11111);
        due("14 secret", x.reach(SECRET, 4), 0b10000);
        due("14 bill", x.reach(BILL, 2), 0b11111);
        due("15", x.whence(LETTER, 2), 0b00100);
        due("15 to 0", x.whence(LETTER, 0), 0b11101);
        due("15 secret", x.whence(SECRET, 3), 0b01111);
        due("16", x.below(LETTER, 2), 0b11100);
        due("16 no balloon", x.below(LETTER, 4), 0b10000);
        due("16 level", x.below(FEATHER, 1), 0b11110);
        x.hermit(3, true);
        due("14 bill stops", x.reach(BILL, 2), 0b00100);
        due("15 bill", x.whence(BILL, 3), 0b01000);
        due("16 bill", x.below(BILL, 0), 0b00011);
        due("16 bill from the hermit", x.below(BILL, 3), 0b11000);
        x.hermit(0, true);
        due("14 bill in no balloon", x.reach(BILL, 4), 0b10000);
        for (int bad : new int[] {-1, 5, MIN, MAX}) {
            due("14 from", x.reach(0, bad), BEYOND);
            due("15 to", x.whence(0, bad), BEYOND);
            due("16 from", x.below(0, bad), BEYOND);
        }
        due("14 kind", x.reach(6, 0), BEYOND);
        due("15 kind", x.whence(-1, 0), BEYOND);
        due("16 kind", x.below(6, 0), BEYOND);
    }

    private static void promise17() {
        DownhillPost x = Lands.five();
        due("17", x.round(LETTER, 0, 3), 15);
        due("17 other way", x.round(LETTER, 3, 0), 17);
        due("17 itself", x.round(SECRET, 2, 2), 0);
        due("17 there but not back", x.round(SECRET, 0, 3), NONE);
        due("17 not there", x.round(SECRET, 4, 3), NONE);
        x.day(2);
        // There on 11, in the sea on 12, up from 14 to 15.
        due("17 from 2", x.round(LETTER, 0, 3), 13);
        due("17 kind", x.round(6, 0, 0), BEYOND);
        due("17 from", x.round(0, 5, 0), BEYOND);
        due("17 to", x.round(0, 0, 5), BEYOND);
    }

    private static void promise18() {
        DownhillPost x = Lands.five();
        due("18", x.live(LETTER, 0b11000), 4);
        due("18 one's own", x.live(LETTER, 0b00100), 2);
        due("18 nowhere", x.live(LETTER, 0b11111), NONE);
        due("18 none to 1 and back", x.live(LETTER, 0b00011), NONE);
        due("18 empty", x.live(LETTER, 0), BEYOND);
        due("18 others", x.live(LETTER, 0b100000), BEYOND);
        due("18 others too", x.live(LETTER, 0b100001), BEYOND);
        due("18 below 0", x.live(LETTER, MIN), BEYOND);
        due("18 all bits", x.live(LETTER, -1), BEYOND);
        due("18 kind", x.live(6, 1), BEYOND);
        DownhillPost level = Lands.heights(4, 4, 4);
        level.road(0, 1, 2);
        level.road(1, 2, 2);
        due("18 in the middle", level.live(FEATHER, 0b101), 1);
        due("18 the least of several", level.live(FEATHER, 0b110), 1);
        due("18 in 0", level.live(FEATHER, 0b001), 0);
        due("18 no villages", new DownhillPost().live(LETTER, 1), BEYOND);
    }

    private static void promise19() {
        due("19 no villages", new DownhillPost().quiet(LETTER), 0);
        DownhillPost x = Lands.heights(1, 2, 3, 4);
        // All four apart, but the balloon joins 0 to 3.
        due("19", x.quiet(LETTER), 5);
        due("19 secret", x.quiet(SECRET), 6);
        x.road(1, 2, 1);
        due("19 one way is enough", x.quiet(SECRET), 5);
        due("19 kind", x.quiet(6), BEYOND);
        due("19 kind", x.quiet(-1), BEYOND);
    }

    private static void promise20() {
        DownhillPost x = Lands.five();
        due("20 quick", x.kind(0, 4), QUICK);
        due("20 of several", x.kind(4, 0), LETTER);
        due("20 itself", x.kind(2, 2), LETTER);
        due("20 level", x.kind(2, 1), FEATHER);
        due("20 of 1 day", x.kind(3, 4), LETTER);
        due("20 from", x.kind(5, 0), BEYOND);
        due("20 to", x.kind(0, -1), BEYOND);
        DownhillPost apart = Lands.heights(3, 2, 1);
        due("20 none", apart.kind(1, 0), NONE);
        due("20 balloon", apart.kind(2, 0), LETTER);
    }

    private static void promise21() {
        DownhillPost x = Lands.five();
        due("21 it can", x.rise(LETTER, 0, 4), 900);
        due("21 above 1", x.rise(LETTER, 2, 1), 501);
        due("21 feather", x.rise(FEATHER, 4, 3), 100);
        due("21 through 3, 0 is too far", x.rise(LETTER, 4, 3), 101);
        due("21 past the peak", x.rise(LETTER, 3, 1), 901);
        due("21 feather by 2", x.rise(FEATHER, 3, 1), 500);
        due("21 none", x.rise(LETTER, 4, 2), NONE);
        x.slide(0, 9999);
        due("21 above all", x.rise(LETTER, 3, 1), NONE);
        due("21 feather beside it", x.rise(FEATHER, 3, 0), 9999);
        x.slide(0, 9998);
        due("21 highest", x.rise(LETTER, 3, 1), 9999);
        x.hermit(1, true);
        due("21 bill", x.rise(BILL, 2, 1), NONE);
        due("21 heavy", x.rise(HEAVY, 2, 1), 501);
        x.hermit(1, false);
        x.hermit(2, true);
        due("21 bill from a hermit", x.rise(BILL, 2, 1), 501);
        due("21 one and the same", x.rise(LETTER, 2, 2), BEYOND);
        due("21 kind", x.rise(6, 0, 1), BEYOND);
        due("21 from", x.rise(0, 5, 1), BEYOND);
        due("21 to", x.rise(0, 1, 5), BEYOND);
        due("21 nothing changes", x.villageOf(2, 0), 500);
    }

    private static void promise22() {
        DownhillPost x = Lands.five();
        due("22", x.fall(LETTER, 0, 4), 900);
        due("22 level", x.fall(FEATHER, 1, 2), 0);
        due("22 itself", x.fall(BILL, 2, 2), 0);
        due("22 by roads alone", x.fall(LETTER, 4, 1), NONE);
        due("22 not level", x.fall(LETTER, 1, 2), NONE);
        due("22 kind", x.fall(-1, 0, 4), BEYOND);
        due("22 from", x.fall(0, 5, 4), BEYOND);
        due("22 to", x.fall(0, 0, 5), BEYOND);
    }

    private static void promise23() {
        DownhillPost x = Lands.five();
        due("23 least of 3 and 4", x.dig(LETTER, 1), 3);
        due("23 secret to all below", x.dig(SECRET, 4), NONE);
        due("23 nothing more", x.dig(FEATHER, 0), NONE);
        due("23 to 2 alone", x.dig(LETTER, 0), 2);
        due("23 kind", x.dig(6, 0), BEYOND);
        due("23 from", x.dig(0, 5), BEYOND);
        DownhillPost most = Lands.heights(9, 5, 6, 4, 0);
        most.road(2, 3, 1);
        due("23 most", most.dig(SECRET, 0), 2);
        due("23 the balloon's, too", most.dig(LETTER, 1), 4);
        most.hermit(2, true);
        due("23 no bill", most.dig(BILL, 0), 1);
        due("23 next to 0", Lands.heights(2, 9, 3).dig(SECRET, 1), 0);
        due("23 nothing changes", most.count(1), 1);
        DownhillPost full = Lands.heights(9, 8, 7, 6, 5, 4, 3, 2, 1, 0, 0, 0);
        for (int one = 0; one < 10; one++) {
            for (int other = one + 1; other < 10 && full.count(1) < 24; other++) {
                full.road(one, other, 1);
            }
        }
        due("23 full", full.road(10, 11, 1), FULL);
        due("23 no room is no matter", full.dig(LETTER, 0), 10);
    }

    private static void promise24() {
        DownhillPost x = Lands.five();
        x.day(3);
        due("24", x.send(BILL, 0, 4), 0);
        due("24 to itself", x.send(SECRET, 2, 2), 1);
        due("24 sent", x.of(0, 3), 3);
        due("24 lies", x.of(0, 1), 0);
        due("24 left", x.of(0, 4), 0);
        due("24 kind", x.send(6, 0, 4), BEYOND);
        due("24 kind", x.send(-1, 0, 4), BEYOND);
        due("24 from", x.send(0, 5, 4), BEYOND);
        due("24 to", x.send(0, 0, 5), BEYOND);
        for (int i = 2; i < 10; i++) {
            due("24 number", x.send(0, 0, 4), i);
        }
        due("24 11th", x.send(0, 0, 4), FULL);
        due("24 beyond ahead of full", x.send(0, 0, 5), BEYOND);
        due("24 count", x.count(2), 10);
    }

    private static void promise25() {
        DownhillPost x = Lands.five();
        x.day(3);
        x.send(HEAVY, 3, 4);
        int[] sent = {HEAVY, 3, 4, 3, 0, 0};
        int[] going = {HEAVY, 4, 4, 3, 1, 0};
        int[] come = {HEAVY, 4, 4, 3, 0, 1};
        for (int what = 0; what < 6; what++) {
            due("25 sent " + what, x.of(0, what), sent[what]);
        }
        x.days(1);
        for (int what = 0; what < 6; what++) {
            due("25 going " + what, x.of(0, what), going[what]);
        }
        x.days(1);
        for (int what = 0; what < 6; what++) {
            due("25 come " + what, x.of(0, what), come[what]);
        }
        due("25 letter", x.of(1, 0), BEYOND);
        due("25 letter", x.of(-1, 0), BEYOND);
        due("25 what", x.of(0, 6), BEYOND);
        due("25 what", x.of(0, -1), BEYOND);
    }

    private static void promise26() {
        DownhillPost x = Lands.five();
        x.send(SECRET, 4, 0);
        due("26", x.turn(0, LETTER), SECRET);
        due("26 the same", x.turn(0, LETTER), LETTER);
        due("26 goes now", x.next(0), 0);
        x.send(LETTER, 0, 3);
        x.days(1);
        due("26 on its way", x.turn(1, QUICK), LETTER);
        due("26 left as it was", x.of(1, 4), 8);
        due("26 letter", x.turn(2, 0), BEYOND);
        due("26 kind", x.turn(0, 6), BEYOND);
        due("26 kind", x.turn(0, -1), BEYOND);
    }

    private static void promise27() {
        DownhillPost x = Lands.five();
        String[] fits = {"100000", "110000", "101000", "100100", "101010", "100101"};
        for (int kind = 0; kind < 6; kind++) {
            x.send(kind, 0, 3);
            for (int as = 0; as < 6; as++) {
                due("27 " + kind + " as " + as, x.as(kind, as), fits[kind].charAt(as) == '1' ? 3 : KIND);
            }
        }
        due("27 letter", x.as(6, 0), BEYOND);
        due("27 kind", x.as(0, 6), BEYOND);
        due("27 kind", x.as(0, -1), BEYOND);
    }

    private static void promise28() {
        DownhillPost x = Lands.five();
        x.send(LETTER, 0, 4);
        x.send(LETTER, 4, 0);
        x.send(SECRET, 4, 0);
        x.send(LETTER, 2, 2);
        due("28 road", x.next(0), 3);
        due("28 balloon", x.next(1), 0);
        due("28 can't", x.next(2), -1);
        due("28 there", x.next(3), -1);
        x.day(1);
        due("28 waits", x.next(1), -1);
        x.days(1);
        due("28 on its way", x.next(0), STATE);
        due("28 letter", x.next(4), BEYOND);
        due("28 letter", x.next(-1), BEYOND);
    }

    private static void promise29() {
        DownhillPost x = Lands.five();
        x.send(LETTER, 3, 4);
        x.send(QUICK, 3, 4);
        x.send(HEAVY, 3, 4);
        x.send(LETTER, 4, 4);
        due("29", x.days(1), 2);
        due("29 day", x.now(0), 1);
        due("29", x.days(1), 1);
        due("29 all there", x.days(200), 0);
        due("29 day", x.now(0), 202);
        due("29 none", x.days(0), BEYOND);
        due("29 too many", x.days(201), BEYOND);
        due("29 below 0", x.days(MIN), BEYOND);
        x.day(9900);
        due("29 past the last", x.days(100), STATE);
        due("29 to the last", x.days(99), 0);
        due("29 last", x.now(0), 9999);
        due("29 no more", x.days(1), STATE);
        due("29 beyond ahead of state", x.days(201), BEYOND);
    }

    private static void promise30() {
        DownhillPost x = Lands.five();
        x.send(LETTER, 0, 3);
        x.days(2);
        due("30", x.day(9999), 2);
        due("30 letters as they are", x.of(0, 4), 7);
        due("30 sent as it was", x.of(0, 3), 0);
        due("30", x.day(0), 9999);
        due("30", x.day(-1), BEYOND);
        due("30", x.day(10000), BEYOND);
        due("30 is", x.now(0), 0);
    }

    private static void promise31() {
        DownhillPost x = Lands.five();
        x.day(1);
        x.every(5);
        x.send(LETTER, 0, 3);
        x.send(LETTER, 0, 4);
        x.send(LETTER, 2, 2);
        x.send(LETTER, 4, 0);
        x.send(SECRET, 4, 0);
        x.send(SECRET, 4, 0);
        due("31 lie elsewhere", x.now(4), 5);
        x.days(1);
        int[] now = {2, 5, 1, 2, 3};
        for (int what = 0; what < 5; what++) {
            due("31 " + what, x.now(what), now[what]);
        }
        due("31 what", x.now(5), BEYOND);
        due("31 what", x.now(-1), BEYOND);
    }

    private static void promise32() {
        DownhillPost x = Lands.five();
        x.send(LETTER, 3, 1);
        // Into 4 on 0, up on 7, into 1 on 8 to be there on 11.
        int[] days = {0, 1, 7, 8, 9, 11, 200};
        int[] where = {3, 4, 4, 0, 1, 1, 1};
        for (int i = 0; i < days.length; i++) {
            due("32 on " + days[i], x.on(0, days[i]), where[i]);
        }
        due("32 nothing changes", x.of(0, 1), 3);
        due("32 nor the day", x.now(0), 0);
        due("32 letter", x.on(1, 0), BEYOND);
        due("32 below 0", x.on(0, -1), BEYOND);
        due("32 too far", x.on(0, 201), BEYOND);
        x.day(9990);
        due("32 to the last day", x.on(0, 9), 1);
        due("32 past it", x.on(0, 10), STATE);
        due("32 beyond ahead of state", x.on(0, 201), BEYOND);
    }

    private static void promise33() {
        DownhillPost x = Lands.five();
        x.send(LETTER, 3, 1);
        x.send(LETTER, 1, 1);
        x.send(LETTER, 1, 2);
        due("33", x.when(0), 11);
        due("33 there", x.when(1), 0);
        due("33 never", x.when(2), NONE);
        due("33 nothing changes", x.now(0), 0);
        due("33 letter", x.when(3), BEYOND);
        due("33 letter", x.when(-1), BEYOND);
        x.day(9799);
        due("33 still", x.when(1), 0);
        x.day(9800);
        due("33 too late", x.when(1), STATE);
        due("33 beyond ahead of state", x.when(3), BEYOND);
        due("33 in 200 days", Lands.longWay(1).when(0), 200);
        due("33 in 201 days", Lands.longWay(0).when(0), NONE);
    }

    private static void promise34() {
        DownhillPost x = Lands.five();
        x.send(LETTER, 3, 4);
        x.send(HEAVY, 3, 4);
        x.send(QUICK, 3, 4);
        x.send(SECRET, 4, 0);
        x.send(SECRET, 4, 1);
        due("34 one", x.first(0, 1), 1);
        due("34 other", x.first(1, 0), 2);
        due("34 the same day", x.first(0, 2), 0);
        due("34 only one", x.first(0, 3), 1);
        due("34 only the other", x.first(3, 1), 2);
        due("34 neither", x.first(3, 4), NONE);
        due("34 one and the same", x.first(2, 2), BEYOND);
        due("34 letter", x.first(0, 5), BEYOND);
        due("34 letter", x.first(-1, 0), BEYOND);
        due("34 nothing changes", x.of(0, 1), 3);
        x.day(9799);
        due("34 still", x.first(0, 1), 1);
        x.day(9800);
        due("34 too late", x.first(0, 1), STATE);
        due("34 beyond ahead of state", x.first(1, 1), BEYOND);
        due("34 in 200 days", Lands.longWay(1).first(1, 0), 2);
        due("34 in 201 days", Lands.longWay(0).first(1, 0), NONE);
        due("34 long before", Lands.longWay(0).first(0, 2), 2);
    }

    private static void wayOfADay() {
        // Two ways of the same length: the letter goes by the lesser village.
        DownhillPost x = Lands.heights(9, 5, 5, 0);
        x.road(0, 2, 1);
        x.road(0, 1, 1);
        x.road(2, 3, 1);
        x.road(1, 3, 1);
        x.send(LETTER, 0, 3);
        due("day: the least village", x.next(0), 1);
        x.slide(1, 9);
        due("day: what a slide changes", x.next(0), 2);
        DownhillPost by0 = Lands.heights(5, 9, 5, 0);
        by0.road(1, 2, 1);
        by0.road(1, 0, 1);
        by0.road(2, 3, 1);
        by0.road(0, 3, 1);
        by0.send(LETTER, 1, 3);
        due("day: 0 is the least", by0.next(0), 0);
        // On the level a feather goes for a walk while it waits, as it comes by that just as early.
        DownhillPost level = Lands.heights(0, 0, 9);
        level.road(0, 1, 1);
        level.day(3);
        level.send(FEATHER, 0, 2);
        due("day: a walk of four days", level.next(0), 1);
        level.day(4);
        due("day: too late for it", level.next(0), -1);
        level.day(7);
        due("day: the balloon", level.next(0), 2);
        // A slide under way doesn't hold a letter, but the rest of its way is another one.
        DownhillPost slid = Lands.five();
        slid.send(LETTER, 0, 4);
        slid.days(3);
        slid.slide(3, 0);
        due("day: it goes on", slid.of(0, 4), 6);
        due("day: not there yet", slid.days(6), 0);
        due("day: it lies in 3", slid.of(0, 1), 3);
        due("day: 3 is the sea now", slid.sea(), 3);
        due("day: and it must wait", slid.next(0), -1);
        // Balloon and all: down to 4, up on 7, down from 0 by the short road into 3.
        DownhillPost balloon = Lands.balloonRather();
        balloon.send(LETTER, 1, 2);
        due("day: down first", balloon.next(0), 3);
        balloon.days(1);
        due("day: then up", balloon.next(0), 0);
        balloon.days(1);
        due("day: down again", balloon.next(0), 2);
        due("day: there", balloon.days(1), 1);
        balloon.every(50);
        balloon.send(LETTER, 1, 2);
        due("day: the road, if the balloon is late", balloon.next(1), 2);
    }

    private static void promise35and36() {
        DownhillPost x = new DownhillPost();
        due("35", x.feed(0x41424344, 4), 4);
        due("35", x.feed(0x41424344, 1), 5);
        due("35 n", x.feed(0, 0), BEYOND);
        due("35 n", x.feed(0, 5), BEYOND);
        due("35 n", x.feed(0, -1), BEYOND);
        due("36", x.wipe(), 5);
        due("36 empty", x.wipe(), 0);
        due("36 count", x.count(3), 0);
        // The highest of the lowest three: "ery" behind "ev", and what is above them is cut.
        x.feed(0x7f7f6576, 2);
        x.feed(0x00657279, 3);
        x.feed(0x41424339, 1);
        due("35 in order", x.text(), 1);
        due("35 every 9", x.now(1), 9);
        for (int i = 1; i <= 29; i++) {
            due("35 fills", x.feed(0, 4), 4 * i);
        }
        x.feed(0, 3);
        due("35 full", x.feed(0, 2), FULL);
        due("35 n ahead of full", x.feed(0, 5), BEYOND);
        due("35 the last", x.feed(0, 1), 120);
        due("35 full", x.feed(0, 1), FULL);
        due("36 all", x.wipe(), 120);
    }

    private static void promise37() {
        DownhillPost x = new DownhillPost();
        due("37 empty", x.text(), -1);
        due("37 blanks", Lands.text(x, "   "), -4);
        due("37", Lands.text(x, "village 900 hermit;village 5;road 0 to 1 days 3;every 4;slide 1 6;bill 1 to 0"), 6);
        due("37 the tape is empty", x.count(3), 0);
        due("37 hermit's", x.villageOf(0, 1), 1);
        due("37 no hermit's", x.villageOf(1, 1), 0);
        due("37 slid", x.villageOf(1, 0), 6);
        due("37 days", x.roadOf(0, 2), 3);
        due("37 every", x.now(1), 4);
        due("37 bill", x.of(0, 0), BILL);
        due("37 lies", x.of(0, 1), 1);
        due("37 to", x.of(0, 2), 0);
        x.day(12);
        due("37 to what there is", Lands.text(x, "village 3;secret 2 to 2"), 2);
        due("37 sent", x.of(1, 3), 12);
        due("37 villages", x.count(0), 3);
        due("37 fault", Lands.text(x, "village 4;every 9;slide 3 0;village 5 5"), -39);
        due("37 nothing changes", x.count(0), 3);
        due("37 nor every", x.now(1), 4);
        due("37 but the tape", x.count(3), 0);
        due("37 no finding", x.status(-1), 0);
    }

    private static void textItems() {
        DownhillPost x = new DownhillPost();
        due("text close", Lands.text(x, "village1;village02hermit;road0to1;letter0to0"), 4);
        due("text 1 day without", x.roadOf(0, 2), 1);
        due("text wide", Lands.text(x, "  every   00000099  ;  slide  0  0009999 "), 2);
        due("text every", x.now(1), 99);
        due("text slid", x.villageOf(0, 0), 9999);
        String[] names = {"letter", "quick", "heavy", "feather", "bill", "secret"};
        for (int kind = 0; kind < 6; kind++) {
            due("text kind", Lands.text(x, names[kind] + " 1 to 0"), 1);
            due("text kind is", x.of(kind + 1, 0), kind);
        }
    }

    /** Each text on a land of villages 0 to 2 with a road between 0 and 1, and the place of its fault. */
    private static void textFaults() {
        String[] texts = {
            "villages 5", "Village 5", "village", "village 5;", "village 5 ;  ", ";village 5", "village x",
            "village 10000", "village 99999999999999999999", "village -1", "village 5 hermits", "village 5 hermit 3",
            "village 5 hermit hermit", "village 5 6", "village 5 days 3", "village 5\t", "village 5!", "hermit",
            "road 0 to 2 days", "road 0 to 2 days 0", "road 0 to 2 days 10", "road 0 to 2 hermit", "road 0 to 2 days 1 1",
            "road 0 2", "road 3 to 0", "road 0 to 3", "road 0 to 0", "road 1 to 0", "road 0 to 2;road 2 to 0",
            "road 0 to", "road 0", "road to", "road 0 days", "slide 3 5", "slide 0", "slide 0 10000", "slide 0 to 5",
            "every 0", "every 100", "every", "every x", "letter 3 to 0", "letter 0 to 3", "letter 0 0", "letter 0 to",
            "quick 0 to 1 days 2", "post 0 to 1", "12", "every 5;;every 6", "every 5 every 6", "\377", "every 5;\0",
            "every 5\0", "villagez 5", "road", "road;", "road 0;", "road 0 to;", "road 0 to 2 days;", "slide", "slide;",
            "slide 0;", "quick", "quick;", "quick 0;", "quick 0 to;", "every;", "village;", "village;village 5",
        };
        int[] places = {
            0, 0, 7, 10, 13, 0, 8,
            8, 8, 8, 10, 17,
            17, 10, 10, 9, 9, 0,
            16, 17, 17, 12, 19,
            7, 5, 10, 10, 10, 22,
            9, 6, 5, 7, 6, 7, 8, 8,
            6, 6, 5, 6, 7, 12, 9, 11,
            13, 0, 0, 8, 8, 0, 8,
            7, 0, 4, 4, 6, 9, 16, 5, 5,
            7, 5, 5, 7, 10, 5, 7, 7,
        };
        due("text faults", texts.length, places.length);
        for (int i = 0; i < texts.length && i < places.length; i++) {
            DownhillPost x = Lands.heights(5, 4, 3);
            x.road(0, 1, 1);
            due("text '" + texts[i] + "'", Lands.text(x, texts[i]), -1 - places[i]);
            due("text as it was", 100 * x.count(0) + 10 * x.count(1) + x.count(2) + x.now(1), 317);
        }
    }

    private static void textRoom() {
        DownhillPost x = Lands.heights(1, 2, 3, 4, 5, 6, 7, 8, 9, 10, 11);
        due("text 12th", Lands.text(x, "village 12"), 1);
        due("text 13th", Lands.text(x, "every 5; village x"), -10);
        for (int one = 0; one < 12; one++) {
            for (int other = one + 1; other < 12 && x.count(1) < 23; other++) {
                x.road(one, other, 1);
            }
        }
        due("text 25th", Lands.text(x, "road 10 to 11;road 9 to 11"), -15);
        due("text 24th", Lands.text(x, "road 10 to 11"), 1);
        for (int i = 0; i < 9; i++) {
            x.send(LETTER, 0, 1);
        }
        due("text 11th", Lands.text(x, "bill 0 to 1; feather 0 to 1"), -14);
        due("text 10th", Lands.text(x, "bill 0 to 1"), 1);
        due("text there by then", Lands.text(Lands.heights(), "village 1;road 0 to 1;village 2"), -21);
        due("text there by then", Lands.text(Lands.heights(), "village 1;village 2;road 0 to 1"), 3);
        DownhillPost full = Lands.heights();
        due("text of 120 bytes", Lands.text(full, "village 1" + ";every 5".repeat(13) + "; every"), -121);
        due("text of 120 bytes", Lands.text(full, "village 1" + ";every 5".repeat(13) + "       "), 14);
    }

    private static void promise38() {
        DownhillPost x = new DownhillPost();
        due("38 of 8", x.sheet(0, 8, 40), 40);
        due("38 of 16", x.sheet(3, 16, 1), 1);
        due("38 of 64", x.sheet(1, 64, 0), 0);
        x.write(0, 39, 5);
        due("38 anew", x.sheet(0, 8, 40), 40);
        due("38 all 0", x.write(0, 39, 6), 0);
        x.sheet(0, 8, 2);
        due("38 shorter", x.write(0, 2, 0), BEYOND);
        x.sheet(0, 8, 40);
        due("38 longer", x.write(0, 39, 0), 0);
        due("38 sheet", x.sheet(4, 8, -1), BEYOND);
        due("38 sheet", x.sheet(-1, 8, 1), BEYOND);
        due("38 bits", x.sheet(0, 32, -1), BEYOND);
        due("38 bits", x.sheet(0, -8, 1), BEYOND);
        due("38 size", x.sheet(0, 8, -1), SIZE);
        due("38 size", x.sheet(0, 0, MIN), SIZE);
        due("38 too many", x.sheet(0, 8, 41), BEYOND);
        due("38 too many", x.sheet(0, 0, 41), BEYOND);
        due("38 as it was", x.write(0, 39, 0), 0);
        due("38 missing", x.sheet(0, 0, 5), 0);
        due("38 is missing", x.write(0, 0, 0), MISSING);
        due("38 of 0 isn't missing", x.lays(1), 0);
    }

    private static void promise39() {
        DownhillPost x = new DownhillPost();
        x.sheet(0, 8, 3);
        x.sheet(1, 16, 3);
        x.sheet(2, 64, 3);
        long v = 0x1234567890abcdefL;
        due("39 was", x.write(0, 2, v), 0);
        due("39 8 bits", x.write(0, 2, 127), (byte) 0xef);
        due("39 8 bits", x.write(0, 2, 128), 127);
        due("39 8 bits", x.write(0, 2, 256), -128);
        due("39 8 bits", x.write(0, 2, 0), 0);
        x.write(1, 0, v);
        due("39 16 bits", x.write(1, 0, 32768), (short) 0xcdef);
        due("39 16 bits", x.write(1, 0, 0), -32768);
        x.write(2, 1, v);
        due("39 64 bits", x.write(2, 1, Long.MIN_VALUE), v);
        due("39 64 bits", x.write(2, 1, 0), Long.MIN_VALUE);
        due("39 sheet", x.write(4, 0, 0), BEYOND);
        due("39 sheet", x.write(-1, 0, 0), BEYOND);
        due("39 missing ahead of the number", x.write(3, 99, 0), MISSING);
        due("39 number", x.write(0, 3, 0), BEYOND);
        due("39 number", x.write(0, -1, 0), BEYOND);
    }

    private static void promise40() {
        DownhillPost x = new DownhillPost();
        x.sheet(0, 8, 5);
        x.sheet(1, 8, 3);
        x.sheet(2, 16, 5);
        for (int i = 0; i < 5; i++) {
            x.write(0, i, i + 1);
        }
        due("40", x.copy(0, 3, 1, 1, 2), 2);
        due("40 is", x.write(1, 2, 5), 5);
        due("40 is", x.write(1, 0, 0), 0);
        due("40 over itself", x.copy(0, 0, 0, 1, 4), 4);
        due("40 as they were", x.write(0, 4, 4), 4);
        due("40 as they were", x.write(0, 2, 2), 2);
        due("40 all of it", x.copy(1, 0, 0, 2, 3), 3);
        due("40 one too many", x.copy(1, 0, 0, 0, 4), BEYOND);
        due("40 none", x.copy(0, 5, 1, 3, 0), 0);
        due("40 none beyond", x.copy(0, 6, 1, 3, 0), BEYOND);
        due("40 source", x.copy(0, 4, 1, 0, 2), BEYOND);
        due("40 target", x.copy(0, 0, 1, 2, 2), BEYOND);
        due("40 from", x.copy(0, -1, 1, 0, 1), BEYOND);
        due("40 to", x.copy(0, 0, 1, -1, 1), BEYOND);
        due("40 n", x.copy(0, 0, 1, 0, -1), BEYOND);
        due("40 wraps", x.copy(0, MAX, 1, 0, MAX), BEYOND);
        due("40 wraps", x.copy(0, 1, 1, 1, MAX), BEYOND);
        due("40 kind ahead of the rest", x.copy(0, -1, 2, 0, 1), KIND);
        due("40 missing", x.copy(0, -1, 3, 0, 1), MISSING);
        due("40 missing", x.copy(3, -1, 0, 0, 1), MISSING);
        due("40 sheet ahead of missing", x.copy(3, 0, 4, 0, 1), BEYOND);
        due("40 sheet ahead of missing", x.copy(-1, 0, 3, 0, 1), BEYOND);
    }

    private static void promise41() {
        DownhillPost x = Lands.heights(1, 2, 3, 4);
        x.sheet(0, 64, 6);
        long[] numbers = {9999, 10000, -1, 0, 7, 7};
        for (int i = 0; i < 6; i++) {
            x.write(0, i, numbers[i]);
        }
        due("41", x.lays(0), 2);
        due("41 greatest", x.villageOf(0, 0), 9999);
        due("41 too great", x.villageOf(1, 0), 2);
        due("41 below 0", x.villageOf(2, 0), 3);
        due("41 least", x.villageOf(3, 0), 0);
        due("41 none came", x.count(0), 4);
        x.write(0, 0, (1L << 32) + 5);
        due("41 not cut", x.lays(0), 1);
        x.sheet(1, 8, 2);
        due("41 as far as it has", x.lays(1), 2);
        due("41 the rest", x.villageOf(2, 0), 3);
        due("41 sheet", x.lays(4), BEYOND);
        due("41 missing", x.lays(2), MISSING);
    }

    private static void promise42() {
        DownhillPost x = Lands.five();
        x.sheet(0, 8, 7);
        x.write(0, 5, 77);
        due("42", x.table(0, LETTER, 3), 5);
        long[] least = {8, 11, -1, 0, 1, 77, 0};
        for (int i = 0; i < 7; i++) {
            due("42 number " + i, x.write(0, i, 0), least[i]);
        }
        x.sheet(1, 64, 2);
        due("42 shorter", x.table(1, LETTER, 3), 2);
        due("42 is", x.write(1, 1, 0), 11);
        x.sheet(1, 64, 0);
        due("42 of 0", x.table(1, LETTER, 3), 0);
        DownhillPost far = Lands.longWay(0);
        far.sheet(0, 8, 1);
        far.table(0, HEAVY, 1);
        due("42 lowest bits", far.write(0, 0, 0), (byte) 201);
        due("42 sheet", x.table(4, 9, 9), BEYOND);
        due("42 missing ahead of kind", x.table(2, 9, 9), MISSING);
        due("42 kind", x.table(0, 6, 0), BEYOND);
        due("42 from", x.table(0, 0, 5), BEYOND);
        due("42 findings", x.status(5), 1);
    }

    private static void promise43() {
        DownhillPost x = Lands.five();
        x.sheet(0, 64, 4);
        int[] way = {0, 1, 2, 3};
        for (int i = 0; i < 4; i++) {
            x.write(0, i, way[i]);
        }
        due("43 feather", x.read(0, FEATHER), 0);
        due("43 letter not on the level", x.read(0, LETTER), 3);
        x.hermit(1, true);
        due("43 bill", x.read(0, BILL), 2);
        x.write(0, 1, 3);
        due("43 up", x.read(0, FEATHER), 3);
        x.write(0, 1, 4);
        due("43 no road", x.read(0, LETTER), 2);
        x.write(0, 1, 0);
        due("43 to itself goes none", x.read(0, FEATHER), 2);
        x.write(0, 0, 5);
        due("43 no village", x.read(0, FEATHER), 1);
        x.write(0, 0, (1L << 32));
        due("43 no village however great", x.read(0, FEATHER), 1);
        x.write(0, 0, -1);
        due("43 no village below 0", x.read(0, FEATHER), 1);
        x.sheet(1, 8, 0);
        due("43 of 0", x.read(1, LETTER), 0);
        x.sheet(1, 8, 2);
        x.write(1, 0, 4);
        due("43 no balloon", x.read(1, LETTER), 2);
        due("43 sheet", x.read(-1, 9), BEYOND);
        due("43 missing ahead of kind", x.read(2, 9), MISSING);
        due("43 kind", x.read(0, 6), BEYOND);
    }

    private static void promise44to46() {
        DownhillPost x = Lands.five();
        x.send(LETTER, 0, 3);
        x.days(2);
        x.feed(65, 1);
        x.sheet(0, 8, 1);
        due("44", x.image(), 1);
        changeAll(x);
        due("45", x.undo(), 5);
        kept(x);
        due("45 the tape as it is", x.count(3), 2);
        due("45 sheets as they are", x.write(0, 0, 0), 9);
        due("45 findings as they are", x.status(-1), 1);
        changeAll(x);
        due("45 it stays", x.undo(), 5);
        kept(x);
        x.village(1);
        due("44 the latest", x.image(), 1);
        x.village(2);
        due("45 the latest", x.undo(), 6);
        due("46", x.tear(), 1);
        due("46 again", x.tear(), 0);
        due("45 nothing is kept", x.undo(), NONE);
        due("45 nothing changes", x.count(0), 6);
    }

    private static void changeAll(DownhillPost x) {
        x.village(3);
        x.slide(0, 1);
        x.hermit(2, true);
        x.road(0, 4, 2);
        x.every(3);
        x.send(BILL, 0, 1);
        x.turn(0, QUICK);
        x.days(9);
        x.feed(66, 1);
        x.write(0, 0, 9);
        x.days(0);
    }

    private static void kept(DownhillPost x) {
        due("45 height", x.villageOf(0, 0), 900);
        due("45 hermit", x.villageOf(2, 1), 0);
        due("45 roads", x.count(1), 5);
        due("45 every", x.now(1), 7);
        due("45 day", x.now(0), 2);
        due("45 letters", x.count(2), 1);
        due("45 kind", x.of(0, 0), LETTER);
        due("45 left", x.of(0, 4), 7);
        due("45 place", x.of(0, 1), 3);
    }

    private static void promise47() {
        DownhillPost x = Lands.five();
        x.send(LETTER, 0, 3);
        x.feed(0, 3);
        due("47 villages", x.count(0), 5);
        due("47 roads", x.count(1), 5);
        due("47 letters", x.count(2), 1);
        due("47 bytes", x.count(3), 3);
        due("47 heights", x.count(4), 2000);
        due("47 what", x.count(5), BEYOND);
        due("47 what", x.count(-1), BEYOND);
    }

    private static void promise48() {
        DownhillPost x = Lands.heights(1, 2, 3, 4, 5, 6, 7, 8, 9, 10, 11, 12);
        x.village(1);
        x.village(-1);
        x.village(-1);
        x.undo();
        x.sheet(0, 0, -1);
        x.sheet(0, 0, -1);
        x.sheet(0, 0, -1);
        x.lays(0);
        x.road(0, 1, 1);
        x.road(1, 0, 1);
        x.send(LETTER, 0, 1);
        x.as(0, 1);
        x.as(0, 2);
        int[] counts = {2, 1, 2, 1, 1, 1, 3};
        for (int which = 0; which < 7; which++) {
            due("48 " + which, x.status(which), counts[which]);
        }
        due("48 all", x.status(-1), 11);
        due("48 another", x.status(7), BEYOND);
        due("48 another", x.status(-2), BEYOND);
        due("48 counted from then on", x.status(0), 4);
        due("48 all", x.status(-1), 13);
        x.image();
        x.village(1);
        x.undo();
        due("48 none is taken back", x.status(1), 2);
        x.sheet(0, 64, 1);
        x.write(0, 0, BEYOND);
        due("48 a number is no finding", x.write(0, 0, 0), BEYOND);
        due("48 not counted", x.status(0), 4);
    }
}
