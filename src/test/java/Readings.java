import java.util.ArrayList;
import java.util.List;

/** All that can be seen of an object. Reading takes the text from the tape and the numbers from the sheets. */
final class Readings {
    private Readings() {
    }

    /** status(-1) and status(0) to status(6). */
    static long[] findings(DownhillPost x) {
        long[] all = new long[8];
        for (int which = -1; which < 7; which++) {
            all[which + 1] = x.status(which);
        }
        return all;
    }

    static List<Long> of(DownhillPost x) {
        List<Long> all = new ArrayList<>();
        for (int what = 0; what < 5; what++) {
            all.add((long) x.count(what));
            all.add((long) x.now(what));
        }
        land(x, all);
        for (int s = 0; s < 4; s++) {
            sheet(x, s, all);
        }
        all.add((long) x.text());
        all.add((long) x.now(1));
        all.add((long) x.count(4));
        return all;
    }

    private static void land(DownhillPost x, List<Long> all) {
        for (int village = 0; village < x.count(0); village++) {
            for (int what = 0; what < 4; what++) {
                all.add((long) x.villageOf(village, what));
            }
        }
        for (int road = 0; road < x.count(1); road++) {
            for (int what = 0; what < 3; what++) {
                all.add((long) x.roadOf(road, what));
            }
        }
        for (int letter = 0; letter < x.count(2); letter++) {
            for (int what = 0; what < 6; what++) {
                all.add((long) x.of(letter, what));
            }
        }
    }

    /** The numbers up to the first that is none, and then, by what stays of a wide number, of how many bits they are. */
    private static void sheet(DownhillPost x, int s, List<Long> all) {
        long was = 0;
        for (int i = 0; i <= 40 && was > Due.BEYOND; i++) {
            was = x.write(s, i, 0x0123456789ab7f7fL);
            all.add(was);
        }
        all.add(x.write(s, 0, 0));
    }
}
