/** The post of a land in which everything is carried downhill, but for one balloon from the sea to the peak. */
public final class DownhillPost {
    private static final int BEYOND = -1000000001;
    private static final int FULL = -1000000002;
    private static final int KIND = -1000000003;
    private static final int NONE = -1000000004;
    private static final int STATE = -1000000005;
    private static final int MISSING = -1000000006;
    private static final int SIZE = -1000000007;
    private static final int FINDINGS = 7;

    private static final int MOST_VILLAGES = 12;
    private static final int MOST_ROADS = 24;
    private static final int MOST_LETTERS = 10;
    private static final int MOST_HEIGHT = 9999;
    private static final int MOST_ROAD_DAYS = 9;
    private static final int MOST_EVERY = 99;
    private static final int FIRST_EVERY = 7;
    private static final int MOST_DAY = 9999;
    private static final int MOST_AHEAD = 200;
    private static final int MOST_BYTES = 120;
    private static final int MOST_NUMBERS = 40;
    private static final int SHEETS = 4;

    private static final int KINDS = 6;
    private static final int QUICK = 1;
    private static final int HEAVY = 2;
    private static final int FEATHER = 3;
    private static final int BILL = 4;
    private static final int SECRET = 5;

    /** Above every day that post can come on, and low enough that sums of a few of these don't wrap. */
    private static final int NEVER = 1000000;

    private final Land land = new Land();
    private final Land kept = new Land();
    private final Land draft = new Land();
    private final Ways ways = new Ways();
    private final Tape tape = new Tape();
    private final Sheet[] sheets = new Sheet[SHEETS];
    private final int[] tally = new int[FINDINGS];
    private boolean imageKept;

    public DownhillPost() {
        for (int s = 0; s < SHEETS; s++) {
            sheets[s] = new Sheet();
        }
    }

    // ---- the land

    public int village(int height) {
        if (!isHeight(height)) {
            return finding(BEYOND);
        }
        if (land.villagesFull()) {
            return finding(FULL);
        }
        return land.addVillage(height, false);
    }

    public int villageOf(int village, int what) {
        if (!land.hasVillage(village)) {
            return finding(BEYOND);
        }
        switch (what) {
            case 0: return land.heightOf(village);
            case 1: return land.isHermits(village) ? 1 : 0;
            case 2: return land.roadsOf(village);
            case 3: return land.lettersIn(village);
            default: return finding(BEYOND);
        }
    }

    public int slide(int village, int v) {
        if (!land.hasVillage(village) || !isHeight(v)) {
            return finding(BEYOND);
        }
        int was = land.heightOf(village);
        land.setHeight(village, v);
        return was;
    }

    public int hermit(int village, boolean is) {
        if (!land.hasVillage(village)) {
            return finding(BEYOND);
        }
        boolean was = land.isHermits(village);
        land.setHermits(village, is);
        return was == is ? 0 : 1;
    }

    public int road(int one, int other, int days) {
        if (!areUnlikeVillages(one, other) || days < 1 || days > MOST_ROAD_DAYS) {
            return finding(BEYOND);
        }
        if (land.areJoined(one, other)) {
            return finding(STATE);
        }
        if (land.roadsFull()) {
            return finding(FULL);
        }
        return land.addRoad(one, other, days);
    }

    public int roadOf(int road, int what) {
        if (!land.hasRoad(road)) {
            return finding(BEYOND);
        }
        switch (what) {
            case 0: return land.ones[road];
            case 1: return land.others[road];
            case 2: return land.lengths[road];
            default: return finding(BEYOND);
        }
    }

    public int every(int v) {
        if (v < 1 || v > MOST_EVERY) {
            return finding(BEYOND);
        }
        int was = land.every;
        land.every = v;
        return was;
    }

    public int sea() {
        return land.villages == 0 ? finding(NONE) : land.lowest();
    }

    public int peak() {
        return land.villages == 0 ? finding(NONE) : land.highest();
    }

    // ---- where, by when

    public int needs(int kind, int road) {
        if (!isKind(kind) || !land.hasRoad(road)) {
            return finding(BEYOND);
        }
        return Post.daysFor(kind, land.lengths[road]);
    }

    public int goes(int kind, int road, boolean back) {
        if (!isKind(kind) || !land.hasRoad(road)) {
            return finding(BEYOND);
        }
        int one = land.ones[road];
        int other = land.others[road];
        boolean carried = back ? land.carries(kind, other, one) : land.carries(kind, one, other);
        return carried ? 1 : 0;
    }

    public int least(int kind, int from, int to) {
        if (!isKind(kind) || !areVillages(from, to)) {
            return finding(BEYOND);
        }
        ways.layOut(land, kind);
        return daysUntil(ways.earliest(from, to, land.day));
    }

    public int reach(int kind, int from) {
        if (!isKind(kind) || !land.hasVillage(from)) {
            return finding(BEYOND);
        }
        ways.layOut(land, kind);
        return ways.allFrom(from);
    }

    public int whence(int kind, int to) {
        if (!isKind(kind) || !land.hasVillage(to)) {
            return finding(BEYOND);
        }
        ways.layOut(land, kind);
        return ways.allInto(to);
    }

    public int below(int kind, int from) {
        if (!isKind(kind) || !land.hasVillage(from)) {
            return finding(BEYOND);
        }
        ways.layOut(land, kind);
        return ways.allDownFrom(from);
    }

    public int round(int kind, int from, int to) {
        if (!isKind(kind) || !areVillages(from, to)) {
            return finding(BEYOND);
        }
        ways.layOut(land, kind);
        return daysUntil(ways.answered(from, to, land.day));
    }

    public int live(int kind, int set) {
        if (!isKind(kind) || set == 0 || (set & ~land.allVillages()) != 0) {
            return finding(BEYOND);
        }
        ways.layOut(land, kind);
        int home = ways.bestHome(set, land.day);
        return home < 0 ? finding(NONE) : home;
    }

    public int quiet(int kind) {
        if (!isKind(kind)) {
            return finding(BEYOND);
        }
        ways.layOut(land, kind);
        return ways.silentPairs();
    }

    public int kind(int from, int to) {
        if (!areVillages(from, to)) {
            return finding(BEYOND);
        }
        int best = -1;
        int bestDay = NEVER;
        for (int kind = 0; kind < KINDS; kind++) {
            ways.layOut(land, kind);
            int day = ways.earliest(from, to, land.day);
            if (day < bestDay) {
                best = kind;
                bestDay = day;
            }
        }
        return best < 0 ? finding(NONE) : best;
    }

    public int rise(int kind, int from, int to) {
        if (!isKind(kind) || !areUnlikeVillages(from, to)) {
            return finding(BEYOND);
        }
        ways.layOut(land, kind);
        if (ways.comesDown(from, to)) {
            return land.heightOf(from);
        }
        int height = heightToRise(kind, from, to);
        return height > MOST_HEIGHT ? finding(NONE) : height;
    }

    public int fall(int kind, int from, int to) {
        if (!isKind(kind) || !areVillages(from, to)) {
            return finding(BEYOND);
        }
        ways.layOut(land, kind);
        if (!ways.comesDown(from, to)) {
            return finding(NONE);
        }
        return land.heightOf(from) - land.heightOf(to);
    }

    public int dig(int kind, int from) {
        if (!isKind(kind) || !land.hasVillage(from)) {
            return finding(BEYOND);
        }
        ways.layOut(land, kind);
        int best = bestDigging(kind, from);
        return best < 0 ? finding(NONE) : best;
    }

    // ---- letters, days

    public int send(int kind, int from, int to) {
        if (!isKind(kind) || !areVillages(from, to)) {
            return finding(BEYOND);
        }
        if (land.lettersFull()) {
            return finding(FULL);
        }
        return land.addLetter(kind, from, to);
    }

    public int of(int letter, int what) {
        if (!land.hasLetter(letter)) {
            return finding(BEYOND);
        }
        switch (what) {
            case 0: return land.kinds[letter];
            case 1: return land.places[letter];
            case 2: return land.goals[letter];
            case 3: return land.sents[letter];
            case 4: return land.lefts[letter];
            case 5: return land.isThere(letter) ? 1 : 0;
            default: return finding(BEYOND);
        }
    }

    public int turn(int letter, int kind) {
        if (!land.hasLetter(letter) || !isKind(kind)) {
            return finding(BEYOND);
        }
        int was = land.kinds[letter];
        land.kinds[letter] = kind;
        return was;
    }

    public int as(int letter, int kind) {
        if (!land.hasLetter(letter) || !isKind(kind)) {
            return finding(BEYOND);
        }
        if (!Post.isUnder(land.kinds[letter], kind)) {
            return finding(KIND);
        }
        return land.goals[letter];
    }

    public int next(int letter) {
        if (!land.hasLetter(letter)) {
            return finding(BEYOND);
        }
        if (land.lefts[letter] > 0) {
            return finding(STATE);
        }
        ways.layOut(land, land.kinds[letter]);
        ways.lookAhead(land.places[letter], land.goals[letter], land.day);
        return ways.stop;
    }

    public int days(int n) {
        if (n < 1 || n > MOST_AHEAD) {
            return finding(BEYOND);
        }
        if (land.day + n > MOST_DAY) {
            return finding(STATE);
        }
        int before = land.lettersThere();
        for (int letter = 0; letter < land.letters; letter++) {
            carryOn(land, letter, n);
        }
        land.day += n;
        // No letter leaves the village to which it is written, so the growth is what came.
        return land.lettersThere() - before;
    }

    public int day(int v) {
        if (v < 0 || v > MOST_DAY) {
            return finding(BEYOND);
        }
        int was = land.day;
        land.day = v;
        return was;
    }

    public int now(int what) {
        switch (what) {
            case 0: return land.day;
            case 1: return land.every;
            case 2: return land.lettersThere();
            case 3: return land.lettersOnTheirWay();
            case 4: return land.letters - land.lettersThere() - land.lettersOnTheirWay();
            default: return finding(BEYOND);
        }
    }

    public int on(int letter, int n) {
        if (!land.hasLetter(letter) || n < 0 || n > MOST_AHEAD) {
            return finding(BEYOND);
        }
        if (land.day + n > MOST_DAY) {
            return finding(STATE);
        }
        draft.become(land);
        carryOn(draft, letter, n);
        return draft.places[letter];
    }

    public int when(int letter) {
        if (!land.hasLetter(letter)) {
            return finding(BEYOND);
        }
        if (land.day + MOST_AHEAD > MOST_DAY) {
            return finding(STATE);
        }
        int days = daysAhead(letter);
        return days >= NEVER ? finding(NONE) : days;
    }

    public int first(int one, int other) {
        if (!land.hasLetter(one) || !land.hasLetter(other) || one == other) {
            return finding(BEYOND);
        }
        if (land.day + MOST_AHEAD > MOST_DAY) {
            return finding(STATE);
        }
        int daysOfOne = daysAhead(one);
        int daysOfOther = daysAhead(other);
        if (daysOfOne == daysOfOther) {
            return daysOfOne >= NEVER ? finding(NONE) : 0;
        }
        return daysOfOne < daysOfOther ? 1 : 2;
    }

    // ---- the text

    public int feed(int bytes, int n) {
        if (n < 1 || n > 4) {
            return finding(BEYOND);
        }
        if (tape.length + n > MOST_BYTES) {
            return finding(FULL);
        }
        for (int i = n - 1; i >= 0; i--) {
            tape.append((bytes >> (8 * i)) & 255);
        }
        return tape.length;
    }

    public int wipe() {
        int had = tape.length;
        tape.length = 0;
        return had;
    }

    public int text() {
        draft.become(land);
        int answer = LandText.bring(tape, draft);
        tape.length = 0;
        if (answer >= 0) {
            land.become(draft);
        }
        return answer;
    }

    // ---- sheets

    public int sheet(int s, int bits, int n) {
        Sheet sheet = sheetAt(s);
        if (sheet == null || !Sheet.isWidth(bits)) {
            return finding(BEYOND);
        }
        if (n < 0) {
            return finding(SIZE);
        }
        if (n > MOST_NUMBERS) {
            return finding(BEYOND);
        }
        sheet.renew(bits, n);
        return sheet.size;
    }

    public long write(int s, int i, long v) {
        Sheet sheet = sheetAt(s);
        if (sheet == null) {
            return finding(BEYOND);
        }
        if (sheet.isMissing()) {
            return finding(MISSING);
        }
        if (!sheet.has(i)) {
            return finding(BEYOND);
        }
        long was = sheet.number(i);
        sheet.put(i, v);
        return was;
    }

    public int copy(int s, int from, int t, int to, int n) {
        Sheet source = sheetAt(s);
        Sheet target = sheetAt(t);
        if (source == null || target == null) {
            return finding(BEYOND);
        }
        if (source.isMissing() || target.isMissing()) {
            return finding(MISSING);
        }
        if (source.bits != target.bits) {
            return finding(KIND);
        }
        if (!source.hasRun(from, n) || !target.hasRun(to, n)) {
            return finding(BEYOND);
        }
        System.arraycopy(source.numbers, from, target.numbers, to, n);
        return n;
    }

    public int lays(int s) {
        Sheet sheet = sheetAt(s);
        if (sheet == null) {
            return finding(BEYOND);
        }
        if (sheet.isMissing()) {
            return finding(MISSING);
        }
        int came = 0;
        for (int i = 0; i < sheet.size && i < land.villages; i++) {
            long height = sheet.number(i);
            if (height >= 0 && height <= MOST_HEIGHT) {
                land.setHeight(i, (int) height);
                came++;
            }
        }
        return came;
    }

    public int table(int s, int kind, int from) {
        Sheet sheet = sheetAt(s);
        if (sheet == null) {
            return finding(BEYOND);
        }
        if (sheet.isMissing()) {
            return finding(MISSING);
        }
        if (!isKind(kind) || !land.hasVillage(from)) {
            return finding(BEYOND);
        }
        ways.layOut(land, kind);
        int rows = Math.min(sheet.size, land.villages);
        for (int to = 0; to < rows; to++) {
            int day = ways.earliest(from, to, land.day);
            sheet.put(to, day >= NEVER ? -1 : day - land.day);
        }
        return rows;
    }

    public int read(int s, int kind) {
        Sheet sheet = sheetAt(s);
        if (sheet == null) {
            return finding(BEYOND);
        }
        if (sheet.isMissing()) {
            return finding(MISSING);
        }
        if (!isKind(kind)) {
            return finding(BEYOND);
        }
        int ahead = -1;
        for (int i = 0; i < sheet.size; i++) {
            long number = sheet.number(i);
            if (number < 0 || number >= land.villages) {
                return 1 + i;
            }
            int village = (int) number;
            if (i > 0 && !land.leadsInto(kind, ahead, village)) {
                return 1 + i;
            }
            ahead = village;
        }
        return 0;
    }

    // ---- images

    public int image() {
        kept.become(land);
        imageKept = true;
        return 1;
    }

    public int undo() {
        if (!imageKept) {
            return finding(NONE);
        }
        land.become(kept);
        return land.villages;
    }

    public int tear() {
        int was = imageKept ? 1 : 0;
        imageKept = false;
        return was;
    }

    public int count(int what) {
        switch (what) {
            case 0: return land.villages;
            case 1: return land.roads;
            case 2: return land.letters;
            case 3: return tape.length;
            case 4: return land.heightsTogether();
            default: return finding(BEYOND);
        }
    }

    public int status(int which) {
        if (which < -1 || which >= FINDINGS) {
            return finding(BEYOND);
        }
        if (which >= 0) {
            return tally[which];
        }
        int all = 0;
        for (int i = 0; i < FINDINGS; i++) {
            all += tally[i];
        }
        return all;
    }

    /** Every finding passes here, so that status() misses none. */
    private int finding(int which) {
        int place = BEYOND - which;
        if (place >= 0 && place < FINDINGS) {
            tally[place]++;
        }
        return which;
    }

    private static boolean isKind(int kind) {
        return kind >= 0 && kind < KINDS;
    }

    private static boolean isHeight(int height) {
        return height >= 0 && height <= MOST_HEIGHT;
    }

    private boolean areVillages(int one, int other) {
        return land.hasVillage(one) && land.hasVillage(other);
    }

    private boolean areUnlikeVillages(int one, int other) {
        return areVillages(one, other) && one != other;
    }

    private Sheet sheetAt(int s) {
        return s >= 0 && s < SHEETS ? sheets[s] : null;
    }

    private int daysUntil(int day) {
        return day >= NEVER ? finding(NONE) : day - land.day;
    }

    /**
     * The least height from which a road leads on to the goal. As the village can't come there now, no way from a
     * neighbour to the goal leads through it, so its own rise leaves these ways as they are.
     */
    private int heightToRise(int kind, int from, int to) {
        int least = NEVER;
        for (int village = 0; village < land.villages; village++) {
            if (land.areJoined(from, village) && land.takes(kind, village) && ways.comesDown(village, to)) {
                least = Math.min(least, land.heightOf(village) + Post.leastDrop(kind));
            }
        }
        return least;
    }

    /** A road helps only by what can be come to from its other end, if post goes there at all. */
    private int bestDigging(int kind, int from) {
        int now = ways.allFrom(from);
        int best = -1;
        int most = Integer.bitCount(now);
        for (int village = 0; village < land.villages; village++) {
            if (village != from && land.carries(kind, from, village)) {
                int come = Integer.bitCount(now | ways.allFrom(village));
                if (come > most) {
                    best = village;
                    most = come;
                }
            }
        }
        return best;
    }

    /** One letter's n days: letters don't touch one another, so each may go through all its days by itself. */
    private void carryOn(Land where, int letter, int n) {
        if (!where.hasLetter(letter) || where.isThere(letter)) {
            return;
        }
        ways.layOut(where, where.kinds[letter]);
        for (int i = 0; i < n; i++) {
            where.passDay(letter, ways, where.day + i);
        }
    }

    /** In how many days, as far as it may be looked ahead, a letter is there; NEVER if it isn't by then. */
    private int daysAhead(int letter) {
        draft.become(land);
        if (!draft.hasLetter(letter)) {
            return NEVER;
        }
        ways.layOut(draft, draft.kinds[letter]);
        for (int i = 0; i < MOST_AHEAD; i++) {
            if (draft.isThere(letter)) {
                return i;
            }
            draft.passDay(letter, ways, draft.day + i);
        }
        return draft.isThere(letter) ? MOST_AHEAD : NEVER;
    }

    /** What the kinds of post have of their own. */
    private static final class Post {
        private static final int[] ABOVE = {-1, 0, 0, 0, HEAVY, FEATHER};

        static boolean isUnder(int kind, int above) {
            int at = kind;
            for (int i = 0; i < KINDS && at >= 0 && at < ABOVE.length; i++) {
                if (at == above) {
                    return true;
                }
                at = ABOVE[at];
            }
            return false;
        }

        static int daysFor(int kind, int days) {
            switch (kind) {
                case QUICK: return (days + 1) / 2;
                case HEAVY:
                case BILL: return 2 * days;
                case FEATHER:
                case SECRET: return days + 1;
                default: return days;
            }
        }

        static int leastDrop(int kind) {
            return isUnder(kind, FEATHER) ? 0 : 1;
        }
    }

    /** All that an image keeps: villages, roads, the balloon's days, the day, letters. */
    private static final class Land {
        int villages;
        final int[] heights = new int[MOST_VILLAGES];
        int hermits;
        int roads;
        final int[] ones = new int[MOST_ROADS];
        final int[] others = new int[MOST_ROADS];
        final int[] lengths = new int[MOST_ROADS];
        int every = FIRST_EVERY;
        int day;
        int letters;
        final int[] kinds = new int[MOST_LETTERS];
        final int[] places = new int[MOST_LETTERS];
        final int[] goals = new int[MOST_LETTERS];
        final int[] sents = new int[MOST_LETTERS];
        final int[] lefts = new int[MOST_LETTERS];

        void become(Land other) {
            villages = other.villages;
            System.arraycopy(other.heights, 0, heights, 0, MOST_VILLAGES);
            hermits = other.hermits;
            roads = other.roads;
            System.arraycopy(other.ones, 0, ones, 0, MOST_ROADS);
            System.arraycopy(other.others, 0, others, 0, MOST_ROADS);
            System.arraycopy(other.lengths, 0, lengths, 0, MOST_ROADS);
            every = other.every;
            day = other.day;
            letters = other.letters;
            System.arraycopy(other.kinds, 0, kinds, 0, MOST_LETTERS);
            System.arraycopy(other.places, 0, places, 0, MOST_LETTERS);
            System.arraycopy(other.goals, 0, goals, 0, MOST_LETTERS);
            System.arraycopy(other.sents, 0, sents, 0, MOST_LETTERS);
            System.arraycopy(other.lefts, 0, lefts, 0, MOST_LETTERS);
        }

        boolean hasVillage(int village) {
            return village >= 0 && village < villages;
        }

        boolean hasRoad(int road) {
            return road >= 0 && road < roads;
        }

        boolean hasLetter(int letter) {
            return letter >= 0 && letter < letters;
        }

        boolean villagesFull() {
            return villages >= MOST_VILLAGES;
        }

        boolean roadsFull() {
            return roads >= MOST_ROADS;
        }

        boolean lettersFull() {
            return letters >= MOST_LETTERS;
        }

        int addVillage(int height, boolean hermit) {
            if (villagesFull()) {
                return -1;
            }
            int village = villages++;
            heights[village] = height;
            setHermits(village, hermit);
            return village;
        }

        int addRoad(int one, int other, int days) {
            if (roadsFull()) {
                return -1;
            }
            ones[roads] = one;
            others[roads] = other;
            lengths[roads] = days;
            return roads++;
        }

        int addLetter(int kind, int from, int to) {
            if (lettersFull()) {
                return -1;
            }
            kinds[letters] = kind;
            places[letters] = from;
            goals[letters] = to;
            sents[letters] = day;
            lefts[letters] = 0;
            return letters++;
        }

        int heightOf(int village) {
            return hasVillage(village) ? heights[village] : 0;
        }

        void setHeight(int village, int height) {
            if (hasVillage(village)) {
                heights[village] = height;
            }
        }

        boolean isHermits(int village) {
            return (hermits >> village & 1) == 1;
        }

        void setHermits(int village, boolean is) {
            if (hasVillage(village)) {
                hermits = is ? hermits | 1 << village : hermits & ~(1 << village);
            }
        }

        int allVillages() {
            return (1 << villages) - 1;
        }

        int roadsOf(int village) {
            int found = 0;
            for (int road = 0; road < roads; road++) {
                if (ones[road] == village || others[road] == village) {
                    found++;
                }
            }
            return found;
        }

        boolean areJoined(int one, int other) {
            for (int road = 0; road < roads; road++) {
                if (ones[road] == one && others[road] == other || ones[road] == other && others[road] == one) {
                    return true;
                }
            }
            return false;
        }

        int lowest() {
            int found = 0;
            for (int village = 1; village < villages; village++) {
                if (heights[village] < heights[found]) {
                    found = village;
                }
            }
            return found;
        }

        int highest() {
            int found = 0;
            for (int village = 1; village < villages; village++) {
                if (heights[village] > heights[found]) {
                    found = village;
                }
            }
            return found;
        }

        int heightsTogether() {
            int sum = 0;
            for (int village = 0; village < villages; village++) {
                sum += heights[village];
            }
            return sum;
        }

        boolean takes(int kind, int village) {
            return kind != BILL || !isHermits(village);
        }

        boolean carries(int kind, int from, int to) {
            return takes(kind, to) && heightOf(from) - heightOf(to) >= Post.leastDrop(kind);
        }

        boolean leadsInto(int kind, int from, int to) {
            return areJoined(from, to) && carries(kind, from, to);
        }

        boolean balloonTakes(int kind) {
            return kind != SECRET && takes(kind, highest());
        }

        boolean liesIn(int letter, int village) {
            return hasLetter(letter) && lefts[letter] == 0 && places[letter] == village;
        }

        boolean isThere(int letter) {
            return hasLetter(letter) && liesIn(letter, goals[letter]);
        }

        int lettersIn(int village) {
            int set = 0;
            for (int letter = 0; letter < letters; letter++) {
                if (liesIn(letter, village)) {
                    set |= 1 << letter;
                }
            }
            return set;
        }

        int lettersThere() {
            int found = 0;
            for (int letter = 0; letter < letters; letter++) {
                if (isThere(letter)) {
                    found++;
                }
            }
            return found;
        }

        int lettersOnTheirWay() {
            int found = 0;
            for (int letter = 0; letter < letters; letter++) {
                if (lefts[letter] > 0) {
                    found++;
                }
            }
            return found;
        }

        /** A day of one letter, by ways that are laid out for its kind. */
        void passDay(int letter, Ways ways, int today) {
            if (!hasLetter(letter)) {
                return;
            }
            if (lefts[letter] == 0) {
                ways.lookAhead(places[letter], goals[letter], today);
                if (ways.stop >= 0) {
                    places[letter] = ways.stop;
                    lefts[letter] = ways.stopDays;
                }
            }
            if (lefts[letter] > 0) {
                lefts[letter]--;
            }
        }
    }

    /**
     * How post of one kind can go. Only the balloon depends on the day, and nothing gains by a second flight, so the
     * days by roads alone between all pairs tell every earliest day.
     */
    private static final class Ways {
        private final int[] steps = new int[MOST_VILLAGES * MOST_VILLAGES];
        private final int[] downs = new int[MOST_VILLAGES * MOST_VILLAGES];
        private int villages;
        private int sea;
        private int peak;
        private int every;
        private boolean balloon;
        /** What lookAhead() found: the next village, -1 if post lies, and the days of the way into it. */
        int stop;
        int stopDays;

        void layOut(Land land, int kind) {
            villages = Math.min(land.villages, MOST_VILLAGES);
            sea = land.lowest();
            peak = land.highest();
            every = Math.max(land.every, 1);
            balloon = land.balloonTakes(kind);
            for (int i = 0; i < MOST_VILLAGES * MOST_VILLAGES; i++) {
                steps[i] = NEVER;
            }
            for (int road = 0; road < land.roads; road++) {
                int days = Post.daysFor(kind, land.lengths[road]);
                layStep(land, kind, land.ones[road], land.others[road], days);
                layStep(land, kind, land.others[road], land.ones[road], days);
            }
            joinSteps();
        }

        private void layStep(Land land, int kind, int from, int to, int days) {
            if (areHere(from, to) && land.carries(kind, from, to)) {
                steps[from * MOST_VILLAGES + to] = days;
            }
        }

        private void joinSteps() {
            System.arraycopy(steps, 0, downs, 0, MOST_VILLAGES * MOST_VILLAGES);
            for (int village = 0; village < villages; village++) {
                downs[village * MOST_VILLAGES + village] = 0;
            }
            for (int middle = 0; middle < villages; middle++) {
                for (int from = 0; from < villages; from++) {
                    if (downs[from * MOST_VILLAGES + middle] < NEVER) {
                        shortenBy(middle, from);
                    }
                }
            }
        }

        private void shortenBy(int middle, int from) {
            if (!areHere(from, middle)) {
                return;
            }
            int fromRow = from * MOST_VILLAGES;
            int middleRow = middle * MOST_VILLAGES;
            int there = downs[fromRow + middle];
            for (int to = 0; to < villages; to++) {
                downs[fromRow + to] = Math.min(downs[fromRow + to], there + downs[middleRow + to]);
            }
        }

        private boolean areHere(int from, int to) {
            return from >= 0 && from < villages && to >= 0 && to < villages;
        }

        private int stepDays(int from, int to) {
            return areHere(from, to) ? steps[from * MOST_VILLAGES + to] : NEVER;
        }

        private int downDays(int from, int to) {
            return areHere(from, to) ? downs[from * MOST_VILLAGES + to] : NEVER;
        }

        boolean comesDown(int from, int to) {
            return downDays(from, to) < NEVER;
        }

        private boolean comes(int from, int to) {
            return comesDown(from, to) || balloon && comesDown(from, sea) && comesDown(peak, to);
        }

        /** The day on which post of a day in one village is in another one at earliest; NEVER if it can't be. */
        int earliest(int from, int to, int day) {
            int days = downDays(from, to);
            int best = days < NEVER ? day + days : NEVER;
            int toSea = downDays(from, sea);
            int fromPeak = downDays(peak, to);
            if (balloon && toSea < NEVER && fromPeak < NEVER) {
                best = Math.min(best, flightFrom(day + toSea) + 1 + fromPeak);
            }
            return best;
        }

        /** The first day from one on on which the balloon goes. */
        private int flightFrom(int day) {
            int past = every > 0 ? day % every : 0;
            return past == 0 ? day : day + every - past;
        }

        int answered(int from, int to, int day) {
            int there = earliest(from, to, day);
            return there >= NEVER ? NEVER : earliest(to, from, there);
        }

        int allFrom(int from) {
            int set = 0;
            for (int to = 0; to < villages; to++) {
                if (comes(from, to)) {
                    set |= 1 << to;
                }
            }
            return set;
        }

        int allInto(int to) {
            int set = 0;
            for (int from = 0; from < villages; from++) {
                if (comes(from, to)) {
                    set |= 1 << from;
                }
            }
            return set;
        }

        int allDownFrom(int from) {
            int set = 0;
            for (int to = 0; to < villages; to++) {
                if (comesDown(from, to)) {
                    set |= 1 << to;
                }
            }
            return set;
        }

        int bestHome(int set, int day) {
            int best = -1;
            int bestDay = NEVER;
            for (int home = 0; home < villages; home++) {
                int last = lastAnswer(home, set, day);
                if (last < bestDay) {
                    best = home;
                    bestDay = last;
                }
            }
            return best;
        }

        private int lastAnswer(int home, int set, int day) {
            int last = day;
            for (int to = 0; to < villages; to++) {
                if ((set >> to & 1) == 1) {
                    last = Math.max(last, answered(home, to, day));
                }
            }
            return last;
        }

        int silentPairs() {
            int pairs = 0;
            for (int one = 0; one < villages; one++) {
                for (int other = one + 1; other < villages; other++) {
                    if (!comes(one, other) && !comes(other, one)) {
                        pairs++;
                    }
                }
            }
            return pairs;
        }

        /** Where post goes next on a day, if any way of that day still brings it to its goal at earliest. */
        void lookAhead(int at, int goal, int day) {
            stop = -1;
            stopDays = 0;
            int due = at == goal ? NEVER : earliest(at, goal, day);
            if (due >= NEVER) {
                return;
            }
            for (int village = 0; village < villages && stop < 0; village++) {
                int days = daysInto(village, at, day);
                if (days < NEVER && earliest(village, goal, day + days) == due) {
                    stop = village;
                    stopDays = days;
                }
            }
        }

        /** No road leads from the sea up to the peak, so a village is come into by a road or the balloon, not both. */
        private int daysInto(int village, int at, int day) {
            boolean flies = balloon && at == sea && village == peak && sea != peak && flightFrom(day) == day;
            return flies ? 1 : stepDays(at, village);
        }
    }

    /** The bytes that are fed, and the token among them that is looked at. */
    private static final class Tape {
        private static final int END = 0;
        private static final int WORD = 1;
        private static final int NUMBER = 2;
        private static final int SEMICOLON = 3;
        private static final int OTHER = 4;

        private final int[] bytes = new int[MOST_BYTES];
        int length;
        int start;
        private int end;
        private int sort;
        int value;

        void append(int one) {
            if (length >= 0 && length < MOST_BYTES) {
                bytes[length++] = one;
            }
        }

        void rewind() {
            end = 0;
            advance();
        }

        void advance() {
            start = end;
            while (start < length && byteAt(start) == ' ') {
                start++;
            }
            sort = sortOf(byteAt(start));
            end = start;
            if (sort == SEMICOLON || sort == OTHER) {
                end++;
            } else if (sort == NUMBER) {
                passNumber();
            } else if (sort == WORD) {
                passWord();
            }
        }

        private int byteAt(int place) {
            return place >= 0 && place < length && place < MOST_BYTES ? bytes[place] : -1;
        }

        private static int sortOf(int one) {
            if (one < 0) {
                return END;
            }
            if (one >= 'a' && one <= 'z') {
                return WORD;
            }
            if (one >= '0' && one <= '9') {
                return NUMBER;
            }
            return one == ';' ? SEMICOLON : OTHER;
        }

        private void passWord() {
            while (end < length && sortOf(byteAt(end)) == WORD) {
                end++;
            }
        }

        private void passNumber() {
            value = 0;
            while (end < length && sortOf(byteAt(end)) == NUMBER) {
                // What is too much stays too much, however many digits follow.
                value = Math.min(value * 10 + byteAt(end) - '0', MOST_HEIGHT + 1);
                end++;
            }
        }

        boolean isEnd() {
            return sort == END;
        }

        boolean isSemicolon() {
            return sort == SEMICOLON;
        }

        boolean isNumber(int least, int most) {
            return sort == NUMBER && value >= least && value <= most;
        }

        boolean isWord(String word) {
            if (sort != WORD || end - start != word.length()) {
                return false;
            }
            for (int i = 0; i < word.length(); i++) {
                if (byteAt(start + i) != word.charAt(i)) {
                    return false;
                }
            }
            return true;
        }
    }

    /**
     * The text of a land. Each part answers whether it stands there; where one doesn't, the tape has stopped at the
     * token that can't, which so is the fault.
     */
    private static final class LandText {
        /** How many items came to the land, or -1 less the place of the fault. */
        static int bring(Tape tape, Land land) {
            tape.rewind();
            for (int items = 1; items <= MOST_BYTES; items++) {
                if (!bringItem(tape, land)) {
                    return -1 - tape.start;
                }
                if (tape.isEnd()) {
                    return items;
                }
                if (!tape.isSemicolon()) {
                    return -1 - tape.start;
                }
                tape.advance();
            }
            return -1 - tape.start;
        }

        private static boolean bringItem(Tape tape, Land land) {
            if (tape.isWord("village")) {
                return bringVillage(tape, land);
            }
            if (tape.isWord("road")) {
                return bringRoad(tape, land);
            }
            if (tape.isWord("slide")) {
                return bringSlide(tape, land);
            }
            if (tape.isWord("every")) {
                return bringEvery(tape, land);
            }
            int kind = kindNamed(tape);
            return kind >= 0 && bringLetter(tape, land, kind);
        }

        private static boolean bringVillage(Tape tape, Land land) {
            if (land.villagesFull()) {
                return false;
            }
            tape.advance();
            if (!tape.isNumber(0, MOST_HEIGHT)) {
                return false;
            }
            int height = tape.value;
            tape.advance();
            boolean hermit = tape.isWord("hermit");
            if (hermit) {
                tape.advance();
            }
            land.addVillage(height, hermit);
            return true;
        }

        private static boolean bringRoad(Tape tape, Land land) {
            if (land.roadsFull()) {
                return false;
            }
            tape.advance();
            int one = tape.value;
            if (!standsVillage(tape, land)) {
                return false;
            }
            tape.advance();
            if (!tape.isWord("to")) {
                return false;
            }
            tape.advance();
            int other = tape.value;
            if (!standsVillage(tape, land) || one == other || land.areJoined(one, other)) {
                return false;
            }
            tape.advance();
            int days = 1;
            if (tape.isWord("days")) {
                tape.advance();
                if (!tape.isNumber(1, MOST_ROAD_DAYS)) {
                    return false;
                }
                days = tape.value;
                tape.advance();
            }
            land.addRoad(one, other, days);
            return true;
        }

        private static boolean bringSlide(Tape tape, Land land) {
            tape.advance();
            int village = tape.value;
            if (!standsVillage(tape, land)) {
                return false;
            }
            tape.advance();
            if (!tape.isNumber(0, MOST_HEIGHT)) {
                return false;
            }
            land.setHeight(village, tape.value);
            tape.advance();
            return true;
        }

        private static boolean bringEvery(Tape tape, Land land) {
            tape.advance();
            if (!tape.isNumber(1, MOST_EVERY)) {
                return false;
            }
            land.every = tape.value;
            tape.advance();
            return true;
        }

        private static boolean bringLetter(Tape tape, Land land, int kind) {
            if (land.lettersFull()) {
                return false;
            }
            tape.advance();
            int from = tape.value;
            if (!standsVillage(tape, land)) {
                return false;
            }
            tape.advance();
            if (!tape.isWord("to")) {
                return false;
            }
            tape.advance();
            if (!standsVillage(tape, land)) {
                return false;
            }
            land.addLetter(kind, from, tape.value);
            tape.advance();
            return true;
        }

        private static boolean standsVillage(Tape tape, Land land) {
            return tape.isNumber(0, land.villages - 1);
        }

        private static int kindNamed(Tape tape) {
            for (int kind = 0; kind < KINDS; kind++) {
                if (tape.isWord(nameOf(kind))) {
                    return kind;
                }
            }
            return -1;
        }

        private static String nameOf(int kind) {
            switch (kind) {
                case QUICK: return "quick";
                case HEAVY: return "heavy";
                case FEATHER: return "feather";
                case BILL: return "bill";
                case SECRET: return "secret";
                default: return "letter";
            }
        }
    }

    /** A row of numbers; without bits it is missing. */
    private static final class Sheet {
        int bits;
        int size;
        final long[] numbers = new long[MOST_NUMBERS];

        static boolean isWidth(int bits) {
            return bits == 0 || bits == 8 || bits == 16 || bits == 64;
        }

        boolean isMissing() {
            return bits == 0;
        }

        void renew(int newBits, int newSize) {
            bits = newBits;
            size = newBits == 0 ? 0 : Math.max(0, Math.min(newSize, MOST_NUMBERS));
            for (int i = 0; i < MOST_NUMBERS; i++) {
                numbers[i] = 0;
            }
        }

        boolean has(int i) {
            return i >= 0 && i < size;
        }

        /** Written without a sum, which might wrap. */
        boolean hasRun(int from, int n) {
            return from >= 0 && n >= 0 && n <= size && from <= size - n;
        }

        long number(int i) {
            return has(i) ? numbers[i] : 0;
        }

        void put(int i, long v) {
            if (has(i)) {
                numbers[i] = narrowed(v);
            }
        }

        private long narrowed(long v) {
            switch (bits) {
                case 8: return (byte) v;
                case 16: return (short) v;
                default: return v;
            }
        }
    }
}
