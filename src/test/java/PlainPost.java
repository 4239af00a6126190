import java.util.ArrayList;
import java.util.List;

/**
 * The document told a second time, as literally and slowly as can be, with none of the program's short cuts: post is
 * followed day by day, and every question that changes something is asked of a changed copy. ModelTest holds the
 * program against it.
 */
final class PlainPost {
    static final class Finding extends RuntimeException {
        private static final long serialVersionUID = 1L;
        final int code;

        Finding(int code) {
            super(null, null, false, false);
            this.code = code;
        }
    }

    static final class Fault extends RuntimeException {
        private static final long serialVersionUID = 1L;
        final int place;

        Fault(int place) {
            super(null, null, false, false);
            this.place = place;
        }
    }

    static final int BEYOND = 1;
    static final int FULL = 2;
    static final int KIND = 3;
    static final int NONE = 4;
    static final int STATE = 5;
    static final int MISSING = 6;
    static final int SIZE = 7;

    static final String[] NAMES = {"letter", "quick", "heavy", "feather", "bill", "secret"};

    record Village(int height, boolean hermit) { }

    record Road(int one, int other, int days) { }

    record Letter(int kind, int at, int to, int sent, int left) {
        boolean there() {
            return left == 0 && at == to;
        }
    }

    record Sheet(int bits, long[] numbers) { }

    record Token(String text, int place) { }

    static final class State {
        List<Village> villages = new ArrayList<>();
        List<Road> roads = new ArrayList<>();
        List<Letter> letters = new ArrayList<>();
        int every = 7;
        int day = 0;

        State twin() {
            State twin = new State();
            twin.villages.addAll(villages);
            twin.roads.addAll(roads);
            twin.letters.addAll(letters);
            twin.every = every;
            twin.day = day;
            return twin;
        }

        int sea() {
            int best = 0;
            for (int v = 0; v < villages.size(); v++) {
                if (villages.get(v).height < villages.get(best).height) {
                    best = v;
                }
            }
            return best;
        }

        int peak() {
            int best = 0;
            for (int v = 0; v < villages.size(); v++) {
                if (villages.get(v).height > villages.get(best).height) {
                    best = v;
                }
            }
            return best;
        }

        int needs(int kind, Road road) {
            return switch (kind) {
                case 1 -> road.days / 2 + road.days % 2;
                case 2 -> 2 * needs(0, road);
                case 3 -> needs(0, road) + 1;
                case 4 -> needs(2, road);
                case 5 -> needs(3, road);
                default -> road.days;
            };
        }

        boolean goes(int kind, int from, int to) {
            return switch (kind) {
                case 3 -> !(villages.get(to).height > villages.get(from).height);
                case 4 -> goes(2, from, to) && !villages.get(to).hermit;
                case 5 -> goes(3, from, to);
                case 1, 2 -> goes(0, from, to);
                default -> villages.get(to).height < villages.get(from).height;
            };
        }

        boolean flies(int kind) {
            return kind != 5 && !(kind == 4 && villages.get(peak()).hermit);
        }

        Road between(int one, int other) {
            for (Road road : roads) {
                if (road.one == one && road.other == other || road.one == other && road.other == one) {
                    return road;
                }
            }
            return null;
        }

        /** Villages that can be come to from one. */
        boolean[] reach(int kind, int from, boolean balloon) {
            boolean[] come = new boolean[villages.size()];
            come[from] = true;
            for (int turn = 0; turn < villages.size(); turn++) {
                for (int v = 0; v < come.length; v++) {
                    for (int u = 0; u < come.length; u++) {
                        if (come[v] && between(v, u) != null && goes(kind, v, u)) {
                            come[u] = true;
                        }
                    }
                }
                if (balloon && flies(kind) && come[sea()]) {
                    come[peak()] = true;
                }
            }
            return come;
        }

        /** Day by day: where post can be by then. -1: never. */
        int earliest(int kind, int from, int to, int day) {
            if (!reach(kind, from, true)[to]) {
                return -1;
            }
            int[] by = new int[villages.size()];
            java.util.Arrays.fill(by, Integer.MAX_VALUE);
            by[from] = day;
            for (int today = day; by[to] > today; today++) {
                for (int v = 0; v < by.length; v++) {
                    if (by[v] > today) {
                        continue;
                    }
                    for (Road road : roads) {
                        if (road.one == v && goes(kind, v, road.other)) {
                            by[road.other] = Math.min(by[road.other], today + needs(kind, road));
                        }
                        if (road.other == v && goes(kind, v, road.one)) {
                            by[road.one] = Math.min(by[road.one], today + needs(kind, road));
                        }
                    }
                    if (v == sea() && flies(kind) && today % every == 0) {
                        by[peak()] = Math.min(by[peak()], today + 1);
                    }
                }
            }
            return by[to];
        }

        /** The next village and the days into it, or null. */
        int[] step(Letter letter) {
            if (letter.there()) {
                return null;
            }
            int due = earliest(letter.kind, letter.at, letter.to, day);
            if (due < 0) {
                return null;
            }
            for (int v = 0; v < villages.size(); v++) {
                Road road = between(letter.at, v);
                if (road != null && goes(letter.kind, letter.at, v)) {
                    int days = needs(letter.kind, road);
                    if (earliest(letter.kind, v, letter.to, day + days) == due) {
                        return new int[] {v, days};
                    }
                }
                if (letter.at == sea() && v == peak() && flies(letter.kind) && day % every == 0) {
                    if (earliest(letter.kind, v, letter.to, day + 1) == due) {
                        return new int[] {v, 1};
                    }
                }
            }
            return null;
        }

        void aDay() {
            for (int i = 0; i < letters.size(); i++) {
                Letter letter = letters.get(i);
                int[] step = letter.left == 0 ? step(letter) : null;
                if (step != null) {
                    letters.set(i, new Letter(letter.kind, step[0], letter.to, letter.sent, step[1]));
                }
            }
            for (int i = 0; i < letters.size(); i++) {
                Letter letter = letters.get(i);
                if (letter.left > 0) {
                    letters.set(i, new Letter(letter.kind, letter.at, letter.to, letter.sent, letter.left - 1));
                }
            }
            day++;
        }

        /** One letter alone, so that the model needs no hours. */
        State only(int letter) {
            State twin = twin();
            twin.letters.clear();
            twin.letters.add(letters.get(letter));
            return twin;
        }

        int when(int letter) {
            State twin = only(letter);
            for (int d = 0; d <= 200; d++) {
                if (twin.letters.get(0).there()) {
                    return d;
                }
                if (twin.hopeless()) {
                    return -1;
                }
                twin.aDay();
            }
            return -1;
        }

        boolean hopeless() {
            Letter letter = letters.get(0);
            return letter.left == 0 && !reach(letter.kind, letter.at, true)[letter.to];
        }
    }

    private State now = new State();
    private State kept = null;
    private final List<Integer> tape = new ArrayList<>();
    private final Sheet[] sheets = new Sheet[4];
    private final int[] tally = new int[8];

    void tell(Finding finding) {
        tally[finding.code]++;
    }

    private static void ask(boolean is, int finding) {
        if (!is) {
            throw new Finding(finding);
        }
    }

    private static boolean in(long v, long low, long high) {
        return low <= v && v <= high;
    }

    private void askVillage(int v) {
        ask(in(v, 0, now.villages.size() - 1), BEYOND);
    }

    private void askRoad(int r) {
        ask(in(r, 0, now.roads.size() - 1), BEYOND);
    }

    private void askLetter(int l) {
        ask(in(l, 0, now.letters.size() - 1), BEYOND);
    }

    private static void askKind(int k) {
        ask(in(k, 0, 5), BEYOND);
    }

    private static int set(boolean[] come) {
        int set = 0;
        for (int i = 0; i < come.length; i++) {
            set += come[i] ? 1 << i : 0;
        }
        return set;
    }

    int village(int height) {
        ask(in(height, 0, 9999), BEYOND);
        ask(now.villages.size() < 12, FULL);
        now.villages.add(new Village(height, false));
        return now.villages.size() - 1;
    }

    int villageOf(int village, int what) {
        askVillage(village);
        ask(in(what, 0, 3), BEYOND);
        int roads = 0;
        for (Road road : now.roads) {
            roads += road.one == village || road.other == village ? 1 : 0;
        }
        int letters = 0;
        for (int i = 0; i < now.letters.size(); i++) {
            Letter letter = now.letters.get(i);
            letters += letter.left == 0 && letter.at == village ? 1 << i : 0;
        }
        Village it = now.villages.get(village);
        return new int[] {it.height, it.hermit ? 1 : 0, roads, letters}[what];
    }

    int slide(int village, int v) {
        askVillage(village);
        ask(in(v, 0, 9999), BEYOND);
        Village was = now.villages.get(village);
        now.villages.set(village, new Village(v, was.hermit));
        return was.height;
    }

    int hermit(int village, boolean is) {
        askVillage(village);
        Village was = now.villages.get(village);
        now.villages.set(village, new Village(was.height, is));
        return was.hermit != is ? 1 : 0;
    }

    int road(int one, int other, int days) {
        askVillage(one);
        askVillage(other);
        ask(one != other && in(days, 1, 9), BEYOND);
        ask(now.between(one, other) == null, STATE);
        ask(now.roads.size() < 24, FULL);
        now.roads.add(new Road(one, other, days));
        return now.roads.size() - 1;
    }

    int roadOf(int road, int what) {
        askRoad(road);
        ask(in(what, 0, 2), BEYOND);
        Road it = now.roads.get(road);
        return new int[] {it.one, it.other, it.days}[what];
    }

    int every(int v) {
        ask(in(v, 1, 99), BEYOND);
        int was = now.every;
        now.every = v;
        return was;
    }

    int sea() {
        ask(!now.villages.isEmpty(), NONE);
        return now.sea();
    }

    int peak() {
        ask(!now.villages.isEmpty(), NONE);
        return now.peak();
    }

    int needs(int kind, int road) {
        askKind(kind);
        askRoad(road);
        return now.needs(kind, now.roads.get(road));
    }

    int goes(int kind, int road, boolean back) {
        askKind(kind);
        askRoad(road);
        Road it = now.roads.get(road);
        return now.goes(kind, back ? it.other : it.one, back ? it.one : it.other) ? 1 : 0;
    }

    private void askPost(int kind, int from, int to) {
        askKind(kind);
        askVillage(from);
        askVillage(to);
    }

    int least(int kind, int from, int to) {
        askPost(kind, from, to);
        int day = now.earliest(kind, from, to, now.day);
        ask(day >= 0, NONE);
        return day - now.day;
    }

    int reach(int kind, int from) {
        askPost(kind, from, from);
        return set(now.reach(kind, from, true));
    }

    int whence(int kind, int to) {
        askPost(kind, to, to);
        boolean[] come = new boolean[now.villages.size()];
        for (int v = 0; v < come.length; v++) {
            come[v] = now.reach(kind, v, true)[to];
        }
        return set(come);
    }

    int below(int kind, int from) {
        askPost(kind, from, from);
        return set(now.reach(kind, from, false));
    }

    int round(int kind, int from, int to) {
        askPost(kind, from, to);
        int there = now.earliest(kind, from, to, now.day);
        ask(there >= 0, NONE);
        int back = now.earliest(kind, to, from, there);
        ask(back >= 0, NONE);
        return back - now.day;
    }

    int live(int kind, int set) {
        askKind(kind);
        ask(set > 0 && set < 1 << now.villages.size(), BEYOND);
        int best = -1;
        int bestLongest = Integer.MAX_VALUE;
        for (int home = 0; home < now.villages.size(); home++) {
            int longest = 0;
            try {
                for (int v = 0; v < now.villages.size(); v++) {
                    if ((set & 1 << v) != 0 && v != home) {
                        longest = Math.max(longest, round(kind, home, v));
                    }
                }
            } catch (Finding notFromHere) {
                continue;
            }
            if (longest < bestLongest) {
                best = home;
                bestLongest = longest;
            }
        }
        ask(best >= 0, NONE);
        return best;
    }

    int quiet(int kind) {
        askKind(kind);
        int pairs = 0;
        for (int one = 0; one < now.villages.size(); one++) {
            for (int other = 0; other < one; other++) {
                if (!now.reach(kind, one, true)[other] && !now.reach(kind, other, true)[one]) {
                    pairs++;
                }
            }
        }
        return pairs;
    }

    int kind(int from, int to) {
        askPost(0, from, to);
        int best = -1;
        int bestDay = Integer.MAX_VALUE;
        for (int kind = 0; kind < 6; kind++) {
            int day = now.earliest(kind, from, to, now.day);
            if (day >= 0 && day < bestDay) {
                best = kind;
                bestDay = day;
            }
        }
        ask(best >= 0, NONE);
        return best;
    }

    int rise(int kind, int from, int to) {
        askPost(kind, from, to);
        ask(from != to, BEYOND);
        Village was = now.villages.get(from);
        java.util.TreeSet<Integer> heights = new java.util.TreeSet<>();
        heights.add(was.height);
        for (Village village : now.villages) {
            // Only on these heights can something change.
            heights.add(village.height);
            heights.add(village.height + 1);
        }
        for (int height : heights) {
            if (height >= was.height && height <= 9999) {
                State twin = now.twin();
                twin.villages.set(from, new Village(height, was.hermit));
                if (twin.reach(kind, from, false)[to]) {
                    return height;
                }
            }
        }
        throw new Finding(NONE);
    }

    int fall(int kind, int from, int to) {
        askPost(kind, from, to);
        ask(now.reach(kind, from, false)[to], NONE);
        return now.villages.get(from).height - now.villages.get(to).height;
    }

    int dig(int kind, int from) {
        askPost(kind, from, from);
        int most = Integer.bitCount(set(now.reach(kind, from, true)));
        int best = -1;
        for (int v = 0; v < now.villages.size(); v++) {
            if (v != from && now.between(from, v) == null) {
                State twin = now.twin();
                twin.roads.add(new Road(from, v, 1));
                int come = Integer.bitCount(set(twin.reach(kind, from, true)));
                if (come > most) {
                    most = come;
                    best = v;
                }
            }
        }
        ask(best >= 0, NONE);
        return best;
    }

    int send(int kind, int from, int to) {
        askPost(kind, from, to);
        ask(now.letters.size() < 10, FULL);
        now.letters.add(new Letter(kind, from, to, now.day, 0));
        return now.letters.size() - 1;
    }

    int of(int letter, int what) {
        askLetter(letter);
        ask(in(what, 0, 5), BEYOND);
        Letter it = now.letters.get(letter);
        return new int[] {it.kind, it.at, it.to, it.sent, it.left, it.there() ? 1 : 0}[what];
    }

    int turn(int letter, int kind) {
        askLetter(letter);
        askKind(kind);
        Letter was = now.letters.get(letter);
        now.letters.set(letter, new Letter(kind, was.at, was.to, was.sent, was.left));
        return was.kind;
    }

    int as(int letter, int kind) {
        askLetter(letter);
        askKind(kind);
        Letter it = now.letters.get(letter);
        boolean is = it.kind == kind || kind == 0 || kind == 2 && it.kind == 4 || kind == 3 && it.kind == 5;
        ask(is, KIND);
        return it.to;
    }

    int next(int letter) {
        askLetter(letter);
        ask(now.letters.get(letter).left == 0, STATE);
        int[] step = now.step(now.letters.get(letter));
        return step == null ? -1 : step[0];
    }

    int days(int n) {
        ask(in(n, 1, 200), BEYOND);
        ask(now.day + n <= 9999, STATE);
        State twin = now.twin();
        for (int d = 0; d < n; d++) {
            twin.aDay();
        }
        int came = 0;
        for (int i = 0; i < now.letters.size(); i++) {
            came += twin.letters.get(i).there() && !now.letters.get(i).there() ? 1 : 0;
        }
        now = twin;
        return came;
    }

    int day(int v) {
        ask(in(v, 0, 9999), BEYOND);
        int was = now.day;
        now.day = v;
        return was;
    }

    int now(int what) {
        ask(in(what, 0, 4), BEYOND);
        int there = 0;
        int going = 0;
        int lying = 0;
        for (Letter letter : now.letters) {
            if (letter.left > 0) {
                going++;
            } else if (letter.at == letter.to) {
                there++;
            } else {
                lying++;
            }
        }
        return new int[] {now.day, now.every, there, going, lying}[what];
    }

    int on(int letter, int n) {
        askLetter(letter);
        ask(in(n, 0, 200), BEYOND);
        ask(now.day + n <= 9999, STATE);
        State twin = now.only(letter);
        for (int d = 0; d < n && !twin.hopeless(); d++) {
            twin.aDay();
        }
        return twin.letters.get(0).at;
    }

    int when(int letter) {
        askLetter(letter);
        ask(now.day <= 9799, STATE);
        int when = now.when(letter);
        ask(when >= 0, NONE);
        return when;
    }

    int first(int one, int other) {
        askLetter(one);
        askLetter(other);
        ask(one != other, BEYOND);
        ask(now.day <= 9799, STATE);
        int first = now.when(one);
        int second = now.when(other);
        ask(first >= 0 || second >= 0, NONE);
        if (first < 0 || second < 0) {
            return first < 0 ? 2 : 1;
        }
        return first == second ? 0 : first < second ? 1 : 2;
    }

    int feed(int bytes, int n) {
        ask(in(n, 1, 4), BEYOND);
        ask(tape.size() + n <= 120, FULL);
        byte[] all = java.nio.ByteBuffer.allocate(4).putInt(bytes).array();
        for (int i = 4 - n; i < 4; i++) {
            tape.add(all[i] & 255);
        }
        return tape.size();
    }

    int wipe() {
        int had = tape.size();
        tape.clear();
        return had;
    }

    int text() {
        StringBuilder all = new StringBuilder();
        for (int one : tape) {
            all.append((char) one);
        }
        tape.clear();
        Text text = new Text(all.toString(), now.twin());
        try {
            int items = text.items();
            now = text.state;
            return items;
        } catch (Fault fault) {
            return -1 - fault.place;
        }
    }

    static final class Text {
        final List<Token> tokens = new ArrayList<>();
        final State state;
        int at = 0;

        Text(String all, State state) {
            this.state = state;
            java.util.regex.Matcher matcher =
                java.util.regex.Pattern.compile("[a-z]+|[0-9]+|[^ ]", java.util.regex.Pattern.DOTALL).matcher(all);
            while (matcher.find()) {
                tokens.add(new Token(matcher.group(), matcher.start()));
            }
            tokens.add(new Token("", all.length()));
        }

        Token token() {
            return tokens.get(at);
        }

        RuntimeException fault() {
            return new Fault(token().place);
        }

        boolean accepts(String word) {
            if (token().text.equals(word)) {
                at++;
                return true;
            }
            return false;
        }

        void wants(String word) {
            if (!accepts(word)) {
                throw fault();
            }
        }

        int number(int low, int high) {
            if (!token().text.matches("[0-9]+")) {
                throw fault();
            }
            java.math.BigInteger value = new java.math.BigInteger(token().text);
            if (value.compareTo(java.math.BigInteger.valueOf(low)) < 0
                || value.compareTo(java.math.BigInteger.valueOf(high)) > 0) {
                throw fault();
            }
            at++;
            return value.intValue();
        }

        int there() {
            return number(0, state.villages.size() - 1);
        }

        void room(boolean is) {
            if (!is) {
                at--;
                throw fault();
            }
        }

        int items() {
            int items = 0;
            do {
                item();
                items++;
            } while (accepts(";"));
            if (!token().text.isEmpty()) {
                throw fault();
            }
            return items;
        }

        void item() {
            if (accepts("village")) {
                room(state.villages.size() < 12);
                int height = number(0, 9999);
                state.villages.add(new Village(height, accepts("hermit")));
            } else if (accepts("road")) {
                room(state.roads.size() < 24);
                int one = there();
                wants("to");
                int other = there();
                if (one == other || state.between(one, other) != null) {
                    at--;
                    throw fault();
                }
                int days = accepts("days") ? number(1, 9) : 1;
                state.roads.add(new Road(one, other, days));
            } else if (accepts("slide")) {
                int v = there();
                state.villages.set(v, new Village(number(0, 9999), state.villages.get(v).hermit));
            } else if (accepts("every")) {
                state.every = number(1, 99);
            } else {
                letter();
            }
        }

        void letter() {
            for (int kind = 0; kind < 6; kind++) {
                if (accepts(NAMES[kind])) {
                    room(state.letters.size() < 10);
                    int from = there();
                    wants("to");
                    state.letters.add(new Letter(kind, from, there(), state.day, 0));
                    return;
                }
            }
            throw fault();
        }
    }

    private void askSheet(int s) {
        ask(in(s, 0, 3), BEYOND);
    }

    private Sheet askThere(int s) {
        ask(sheets[s] != null, MISSING);
        return sheets[s];
    }

    private static long cut(int bits, long v) {
        return v << (64 - bits) >> (64 - bits);
    }

    int sheet(int s, int bits, int n) {
        askSheet(s);
        ask(bits == 0 || bits == 8 || bits == 16 || bits == 64, BEYOND);
        ask(n >= 0, SIZE);
        ask(n <= 40, BEYOND);
        sheets[s] = bits == 0 ? null : new Sheet(bits, new long[n]);
        return bits == 0 ? 0 : n;
    }

    long write(int s, int i, long v) {
        askSheet(s);
        Sheet sheet = askThere(s);
        ask(in(i, 0, sheet.numbers.length - 1), BEYOND);
        long was = sheet.numbers[i];
        sheet.numbers[i] = cut(sheet.bits, v);
        return was;
    }

    int copy(int s, int from, int t, int to, int n) {
        askSheet(s);
        askSheet(t);
        Sheet source = askThere(s);
        Sheet target = askThere(t);
        ask(source.bits == target.bits, KIND);
        ask(from >= 0 && to >= 0 && n >= 0, BEYOND);
        ask((long) from + n <= source.numbers.length && (long) to + n <= target.numbers.length, BEYOND);
        long[] were = source.numbers.clone();
        for (int i = 0; i < n; i++) {
            target.numbers[to + i] = were[from + i];
        }
        return n;
    }

    int lays(int s) {
        askSheet(s);
        Sheet sheet = askThere(s);
        int came = 0;
        for (int i = 0; i < sheet.numbers.length; i++) {
            if (i < now.villages.size() && in(sheet.numbers[i], 0, 9999)) {
                slide(i, (int) sheet.numbers[i]);
                came++;
            }
        }
        return came;
    }

    int table(int s, int kind, int from) {
        askSheet(s);
        Sheet sheet = askThere(s);
        askPost(kind, from, from);
        int rows = 0;
        for (int to = 0; to < now.villages.size() && to < sheet.numbers.length; to++) {
            int day = now.earliest(kind, from, to, now.day);
            sheet.numbers[to] = cut(sheet.bits, day < 0 ? -1 : day - now.day);
            rows++;
        }
        return rows;
    }

    int read(int s, int kind) {
        askSheet(s);
        Sheet sheet = askThere(s);
        askKind(kind);
        for (int i = 0; i < sheet.numbers.length; i++) {
            if (!in(sheet.numbers[i], 0, now.villages.size() - 1)) {
                return 1 + i;
            }
            if (i > 0) {
                int from = (int) sheet.numbers[i - 1];
                int to = (int) sheet.numbers[i];
                if (now.between(from, to) == null || !now.goes(kind, from, to)) {
                    return 1 + i;
                }
            }
        }
        return 0;
    }

    int image() {
        kept = now.twin();
        return 1;
    }

    int undo() {
        ask(kept != null, NONE);
        now = kept.twin();
        return now.villages.size();
    }

    int tear() {
        int was = kept != null ? 1 : 0;
        kept = null;
        return was;
    }

    int count(int what) {
        ask(in(what, 0, 4), BEYOND);
        int sum = 0;
        for (Village village : now.villages) {
            sum += village.height;
        }
        return new int[] {now.villages.size(), now.roads.size(), now.letters.size(), tape.size(), sum}[what];
    }

    int status(int which) {
        ask(in(which, -1, 6), BEYOND);
        int all = 0;
        for (int i = 1; i <= 7; i++) {
            all += which == -1 || which == i - 1 ? tally[i] : 0;
        }
        return all;
    }
}
