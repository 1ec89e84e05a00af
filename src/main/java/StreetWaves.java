/** Waves in streets: a town told as a text, the ways of waves in it, and what follows from them. */
public final class StreetWaves {
    public static final int NONE = -1;

    private static final int ABSENT = -2;
    private static final int TAPE = 500;
    private static final int SIDE = 21;
    private static final int LAST_DAY = 999;
    private static final int WALLS = 12;
    private static final int SENDERS = 6;
    private static final int SITES = 8;
    private static final int NEEDS = 8;
    private static final int SECONDS = 60;
    private static final int LINES = 16;
    private static final int TESTS = 4;
    private static final int HOURS = 24;
    private static final int SPAN_MOST = 1000000000;

    private static final int DEPTH = 0;
    private static final int BEND = 1;
    private static final int NOISE = 2;
    private static final int SHARE = 3;
    private static final int LEAST = 4;
    private static final int MARGIN = 5;
    private static final int HOLD = 6;
    private static final int[] SETTING_FIRST = {1, 0, 1, 100, 10, 10, 1};
    private static final int[] SETTING_LOW = {0, 0, 0, 0, 1, 0, 1};
    private static final int[] SETTING_HIGH = {2, 100, 9999, 9999, 9999, 999, 9};

    private final State now = new State();
    private final State[] images = new State[3];
    private final Finder finder = new Finder();
    private final Hearing hearing = new Hearing(now, finder);
    private final Planner planner = new Planner(now, hearing);
    private final Court court = new Court(now, hearing);
    private final TownText townText = new TownText();
    private final LawText lawText = new LawText();

    public StreetWaves() {
    }

    public int feed(int a, int b, int c, int d, int e) {
        if (now.tape.size() + 20 > TAPE) {
            return NONE;
        }
        feedOne(a);
        feedOne(b);
        feedOne(c);
        feedOne(d);
        feedOne(e);
        return now.tape.size();
    }

    private void feedOne(int number) {
        for (int shift = 24; shift >= 0; shift -= 8) {
            int row = now.tape.size();
            now.tape.add();
            now.tape.put(row, 0, (number >> shift) & 255);
        }
    }

    public int end(int n) {
        if (n < 0 || n > now.tape.size()) {
            return NONE;
        }
        now.tape.cut(n);
        return n;
    }

    public int town() {
        int lines = townText.read(now);
        now.tape.cut(0);
        refresh();
        return lines;
    }

    public int law() {
        int lines = lawText.read(now);
        now.tape.cut(0);
        return lines;
    }

    public int fault(int what) {
        switch (what) {
            case 0: return now.fault;
            case 1: return now.faultPlace;
            default: return NONE;
        }
    }

    public boolean day(int day) {
        if (day < now.day || day > LAST_DAY) {
            return false;
        }
        now.day = day;
        refresh();
        return true;
    }

    public boolean view(int day) {
        if (day < NONE || day > now.day) {
            return false;
        }
        now.view = day;
        refresh();
        return true;
    }

    public boolean pull(boolean wall, int k) {
        Table sort = wall ? now.walls : now.senders;
        int column = wall ? State.WALL_PULLED : State.SENDER_PULLED;
        if (!sort.has(k) || sort.get(k, column) != NONE) {
            return false;
        }
        sort.put(k, column, now.day);
        refresh();
        return true;
    }

    public boolean stuff(int stuff, int back, int through) {
        if (!now.stuffs.has(stuff) || !isPercent(back) || !isPercent(through)) {
            return false;
        }
        now.stuffs.put(stuff, State.BACK, back);
        now.stuffs.put(stuff, State.THROUGH, through);
        refresh();
        return true;
    }

    private static boolean isPercent(int number) {
        return number >= 0 && number <= 100;
    }

    public boolean set(int what, int number) {
        if (what < 0 || what >= SETTING_LOW.length || what >= SETTING_HIGH.length) {
            return false;
        }
        if (number < SETTING_LOW[what] || number > SETTING_HIGH[what]) {
            return false;
        }
        now.settings.put(what, 0, number);
        if (what == DEPTH || what == BEND) {
            refresh();
        }
        return true;
    }

    /** What was remembered of the ways was found in another town than this one. */
    private void refresh() {
        finder.build(now);
        hearing.forget();
    }

    public int wall(int wall, int what) {
        if (!now.walls.has(wall) || what < 0 || what > State.WALL_PULLED) {
            return ABSENT;
        }
        return now.walls.get(wall, what);
    }

    public int sender(int sender, int what) {
        if (!now.senders.has(sender) || what < 0 || what > State.SENDER_PULLED) {
            return ABSENT;
        }
        return now.senders.get(sender, what);
    }

    private static boolean isPoint(int x, int y) {
        return x >= 0 && x < SIDE && y >= 0 && y < SIDE;
    }

    public boolean sees(int sender, int x, int y) {
        return hearing.list(sender, x, y) && finder.sawTarget();
    }

    public int ways(int sender, int x, int y) {
        return hearing.list(sender, x, y) ? finder.size() : NONE;
    }

    public int way(int sender, int x, int y, int k, int what) {
        if (!hearing.list(sender, x, y) || k < 0 || k >= finder.size()) {
            return ABSENT;
        }
        if (what == 6) {
            return finder.lateness(k);
        }
        return what >= Finder.KIND && what <= Finder.STRENGTH ? finder.tell(k, what) : ABSENT;
    }

    public int compare(int a, int k, int b, int i, int x, int y) {
        if (!hearing.list(a, x, y) || k < 0 || k >= finder.size()) {
            return ABSENT;
        }
        int firstA = finder.tell(k, Finder.A);
        int firstB = finder.tell(k, Finder.B);
        if (!hearing.list(b, x, y) || i < 0 || i >= finder.size()) {
            return ABSENT;
        }
        return Finder.orderOfLengths(firstA, firstB, finder.tell(i, Finder.A), finder.tell(i, Finder.B));
    }

    public int signal(int sender, int x, int y) {
        return hearing.signalAt(sender, x, y);
    }

    public int heard(int x, int y) {
        if (!isPoint(x, y)) {
            return NONE;
        }
        hearing.listen(x, y);
        return hearing.heardBits();
    }

    public int best(int x, int y) {
        if (!isPoint(x, y)) {
            return NONE;
        }
        hearing.listen(x, y);
        return hearing.bestHeard();
    }

    public int step(int x, int y) {
        int second = now.walk.size();
        if (!isPoint(x, y) || !now.walk.add()) {
            return NONE;
        }
        now.walk.put(second, 0, x);
        now.walk.put(second, 1, y);
        return now.walk.size();
    }

    public void unwalk() {
        now.walk.cut(0);
    }

    public int served(int second) {
        if (!now.walk.has(second)) {
            return NONE;
        }
        hearing.followWalk();
        return hearing.servedIn(second);
    }

    public int walk(int what) {
        switch (what) {
            case 0: return now.walk.size();
            case 1:
                hearing.followWalk();
                return hearing.changes();
            case 2:
                hearing.followWalk();
                return hearing.lost();
            default: return NONE;
        }
    }

    public int cover(int what) {
        planner.chooseSites();
        switch (what) {
            case 0: return planner.cost;
            case 1: return planner.fewest;
            case 2: return planner.chosen;
            default: return NONE;
        }
    }

    public int serves(int site, int need) {
        return hearing.siteSignal(site, need);
    }

    public boolean clash(int a, int b) {
        if (a == b || !now.senderStands(a) || !now.senderStands(b)) {
            return false;
        }
        planner.findReaches();
        return planner.clashing(a, b);
    }

    public int colour(int sender) {
        if (!now.senderStands(sender)) {
            return NONE;
        }
        planner.paintSenders();
        return planner.paintOf(sender);
    }

    public boolean span(int sender, int a, int b) {
        if (!now.senders.has(sender)) {
            return false;
        }
        if (a != NONE && (a < 0 || a > b || b > SPAN_MOST)) {
            return false;
        }
        now.senders.put(sender, State.SPAN_FROM, a);
        now.senders.put(sender, State.SPAN_TO, b);
        return true;
    }

    public int places() {
        int fitting = 0;
        for (int spot = 0; spot < SIDE * SIDE; spot++) {
            if (hearing.fits(spot % SIDE, spot / SIDE)) {
                fitting++;
            }
        }
        return fitting;
    }

    public int place(int k) {
        int fitting = 0;
        for (int spot = 0; spot < SIDE * SIDE && k >= 0; spot++) {
            if (hearing.fits(spot % SIDE, spot / SIDE)) {
                if (fitting == k) {
                    return spot / SIDE * 100 + spot % SIDE;
                }
                fitting++;
            }
        }
        return NONE;
    }

    public int echo(int sender, int x, int y, int e, int k) {
        if (!now.senderStands(sender) || !isPoint(x, y) || k < 0) {
            return NONE;
        }
        int sx = now.senders.get(sender, 0);
        int sy = now.senders.get(sender, 1);
        int found = 0;
        for (int line = 0; line < 2 * SIDE; line++) {
            boolean upright = line < SIDE;
            int c = line % SIDE;
            boolean echoes = upright ? echoesAt(c, sx, x, sy - y, e) : echoesAt(c, sy, y, sx - x, e);
            if (echoes && found == k) {
                return upright ? c : 100 + c;
            }
            found += echoes ? 1 : 0;
        }
        return NONE;
    }

    /** Whether a line at c lies on one side of both, and throws back over the square e, if they are beside apart along it. */
    private static boolean echoesAt(int c, int from, int to, int beside, int e) {
        int across = from - c + to - c;
        return (from - c) * (to - c) > 0 && across * across + beside * beside == e;
    }

    public int why(int sender, int hour) {
        if (!now.senderStands(sender) || hour < 0 || hour >= HOURS) {
            return NONE;
        }
        court.hearSenders();
        return court.lineFor(sender, hour);
    }

    public int breach(int what) {
        court.findBreach();
        switch (what) {
            case 0: return court.breachHour;
            case 1: return court.breachSender;
            default: return NONE;
        }
    }

    public int count(int what) {
        switch (what) {
            case 0: return now.standingWalls();
            case 1: return now.standingSenders();
            case 2: return now.walls.size();
            case 3: return now.senders.size();
            case 4: return now.sites.size();
            case 5: return now.needs.size();
            case 6: return now.day;
            case 7: return now.view;
            case 8: return now.law.size();
            case 9:
                planner.paintSenders();
                return planner.paints;
            default: return ABSENT;
        }
    }

    public boolean image(int k) {
        if (k < 0 || k >= images.length) {
            return false;
        }
        State image = images[k];
        if (image == null) {
            image = new State();
            images[k] = image;
        }
        image.copy(now);
        return true;
    }

    public boolean again(int k) {
        State image = k >= 0 && k < images.length ? images[k] : null;
        if (image == null) {
            return false;
        }
        now.copy(image);
        refresh();
        return true;
    }

    /** Rows of numbers with a bound; what lies outside of it is NONE, and is not written. */
    private static final class Table {
        private final int most;
        private final int width;
        private final int[] cells;
        private int rows;

        Table(int most, int width) {
            this.most = Math.max(0, most);
            this.width = Math.max(0, width);
            this.cells = new int[this.most * this.width];
        }

        int size() {
            return rows;
        }

        boolean has(int row) {
            return row >= 0 && row < rows;
        }

        boolean full() {
            return rows >= most;
        }

        boolean add() {
            if (rows >= most) {
                return false;
            }
            rows++;
            return true;
        }

        void cut(int size) {
            if (size >= 0 && size < rows) {
                rows = size;
            }
        }

        int get(int row, int column) {
            if (row < 0 || row >= rows || column < 0 || column >= width) {
                return NONE;
            }
            return cells[row * width + column];
        }

        void put(int row, int column, int number) {
            if (row >= 0 && row < rows && column >= 0 && column < width) {
                cells[row * width + column] = number;
            }
        }

        void copy(Table other) {
            rows = Math.min(other.rows, most);
            System.arraycopy(other.cells, 0, cells, 0, Math.min(cells.length, other.cells.length));
        }
    }

    /** All that is told: what an image keeps. */
    private static final class State {
        static final int WALL_STUFF = 4;
        static final int WALL_TOLD = 5;
        static final int WALL_PULLED = 6;
        static final int SENDER_COLOUR = 2;
        static final int SENDER_POWER = 3;
        static final int SENDER_TOLD = 4;
        static final int SENDER_PULLED = 5;
        static final int SPAN_FROM = 6;
        static final int SPAN_TO = 7;
        static final int SITE_POWER = 2;
        static final int SITE_COST = 3;
        static final int BACK = 0;
        static final int THROUGH = 1;

        final Table tape = new Table(TAPE, 1);
        final Table walls = new Table(WALLS, 7);
        final Table senders = new Table(SENDERS, 8);
        final Table sites = new Table(SITES, 4);
        final Table needs = new Table(NEEDS, 2);
        final Table stuffs = new Table(5, 2);
        final Table settings = new Table(SETTING_FIRST.length, 1);
        final Table law = new Table(LINES, LawText.WIDTH);
        final Table walk = new Table(SECONDS, 2);
        int fault = 0;
        int faultPlace = NONE;
        int day = 0;
        int view = NONE;

        State() {
            for (int stuff = 0; stuff < 5; stuff++) {
                stuffs.add();
                stuffs.put(stuff, BACK, 50);
                stuffs.put(stuff, THROUGH, 0);
            }
            for (int what = 0; what < SETTING_FIRST.length; what++) {
                settings.add();
                settings.put(what, 0, SETTING_FIRST[what]);
            }
        }

        void copy(State other) {
            tape.copy(other.tape);
            walls.copy(other.walls);
            senders.copy(other.senders);
            sites.copy(other.sites);
            needs.copy(other.needs);
            stuffs.copy(other.stuffs);
            settings.copy(other.settings);
            law.copy(other.law);
            walk.copy(other.walk);
            fault = other.fault;
            faultPlace = other.faultPlace;
            day = other.day;
            view = other.view;
        }

        int setting(int what) {
            return settings.get(what, 0);
        }

        private boolean isKnown(int told, int pulled) {
            int by = view == NONE ? day : view;
            return told <= by && (pulled == NONE || pulled > by);
        }

        boolean wallStands(int wall) {
            return walls.has(wall) && isKnown(walls.get(wall, WALL_TOLD), walls.get(wall, WALL_PULLED));
        }

        boolean senderStands(int sender) {
            return senders.has(sender) && isKnown(senders.get(sender, SENDER_TOLD), senders.get(sender, SENDER_PULLED));
        }

        int standingWalls() {
            int standing = 0;
            for (int wall = 0; wall < walls.size(); wall++) {
                standing += wallStands(wall) ? 1 : 0;
            }
            return standing;
        }

        int standingSenders() {
            int standing = 0;
            for (int sender = 0; sender < senders.size(); sender++) {
                standing += senderStands(sender) ? 1 : 0;
            }
            return standing;
        }
    }

    /** A place (x / w, y / w), w above 0: mirrors throw back at places that are not whole. */
    private static final class Spot {
        long x = 0;
        long y = 0;
        long w = 1;

        void put(int wholeX, int wholeY) {
            x = wholeX;
            y = wholeY;
            w = 1;
        }

        void mirror(Spot of, Barrier at) {
            x = at.upright ? 2L * at.line * of.w - of.x : of.x;
            y = at.upright ? of.y : 2L * at.line * of.w - of.y;
            w = of.w;
        }

        /** Of whole places alone. */
        int squareTo(Spot other) {
            long dx = x - other.x;
            long dy = y - other.y;
            return (int) (dx * dx + dy * dy);
        }
    }

    /** A wall as waves find it; all of them stand in a chain by their numbers. */
    private static final class Barrier {
        final int number;
        final Barrier next;
        boolean stands = false;
        boolean upright = false;
        int line = 0;
        int low = 0;
        int high = 0;
        int back = 0;
        int through = 0;

        Barrier(int number, Barrier next) {
            this.number = number;
            this.next = next;
        }

        void build(State told) {
            stands = told.wallStands(number);
            if (!stands) {
                return;
            }
            int x = told.walls.get(number, 0);
            int y = told.walls.get(number, 1);
            upright = x == told.walls.get(number, 2);
            line = upright ? x : y;
            low = upright ? y : x;
            high = told.walls.get(number, upright ? 3 : 2);
            int stuff = told.walls.get(number, State.WALL_STUFF);
            back = told.stuffs.get(stuff, State.BACK);
            through = told.stuffs.get(stuff, State.THROUGH);
        }

        /** Whether the leg meets this wall; where it goes over the wall's line comes to at. */
        boolean meets(Spot from, Spot to, Spot at) {
            long ahead = (upright ? from.x : from.y) - line * from.w;
            long behind = (upright ? to.x : to.y) - line * to.w;
            if (!(ahead < 0 && behind > 0) && !(ahead > 0 && behind < 0)) {
                return false;
            }
            // Each end weighs as much as the other one is far from the line.
            long fromWeight = behind < 0 ? -behind : behind;
            long toWeight = ahead < 0 ? -ahead : ahead;
            at.x = from.x * fromWeight + to.x * toWeight;
            at.y = from.y * fromWeight + to.y * toWeight;
            at.w = from.w * fromWeight + to.w * toWeight;
            long along = upright ? at.y : at.x;
            return low * at.w <= along && along <= high * at.w;
        }

        void putEnd(int end, Spot at) {
            int along = end == 0 ? low : high;
            at.put(upright ? line : along, upright ? along : line);
        }

        boolean endsAt(Spot corner) {
            long across = upright ? corner.x : corner.y;
            long along = upright ? corner.y : corner.x;
            return across == line && (along == low || along == high);
        }
    }

    /** Finds all ways from a source to a target that are not barred. */
    private static final class Finder {
        static final int KIND = 0;
        static final int FIRST = 1;
        static final int SECOND = 2;
        static final int A = 3;
        static final int B = 4;
        static final int STRENGTH = 5;
        /** One by sight, by one mirror, by two unlike ones, round the ends of all walls. */
        private static final int MOST = 1 + WALLS + WALLS * (WALLS - 1) + 2 * WALLS;

        private final Barrier chain;
        private final Spot source = new Spot();
        private final Spot target = new Spot();
        private final Spot imageOne = new Spot();
        private final Spot imageTwo = new Spot();
        private final Spot turnOne = new Spot();
        private final Spot turnTwo = new Spot();
        private final Spot crossing = new Spot();
        private final Table found = new Table(MOST, 6);
        private final int[] order = new int[MOST];
        private int depth = 0;
        private int bend = 0;
        private int power = 0;
        private int total = 0;

        Finder() {
            Barrier first = null;
            for (int number = WALLS - 1; number >= 0; number--) {
                first = new Barrier(number, first);
            }
            chain = first;
        }

        void build(State told) {
            depth = told.setting(DEPTH);
            bend = told.setting(BEND);
            for (Barrier wall = chain; wall != null; wall = wall.next) {
                wall.build(told);
            }
        }

        /** Finds the ways by kind, first wall, second wall; answers their strengths together. */
        int search(Table senders, int row, int powerColumn, int x, int y) {
            found.cut(0);
            total = 0;
            power = senders.get(row, powerColumn);
            source.put(senders.get(row, 0), senders.get(row, 1));
            target.put(x, y);
            searchSight();
            boolean barred = found.size() == 0;
            if (depth > 0) {
                searchMirrors();
            }
            if (depth > 1) {
                searchPairs();
            }
            if (bend > 0 && barred) {
                searchCorners();
            }
            return total;
        }

        private void searchSight() {
            int d = source.squareTo(target);
            keep(0, NONE, NONE, d, 0, carry(spread(d), source, target));
        }

        private void searchMirrors() {
            for (Barrier wall = chain; wall != null; wall = wall.next) {
                imageOne.mirror(source, wall);
                if (!wall.stands || !wall.meets(imageOne, target, turnOne)) {
                    continue;
                }
                int d = imageOne.squareTo(target);
                int strength = spread(d) * wall.back / 100;
                strength = carry(strength, source, turnOne);
                strength = carry(strength, turnOne, target);
                keep(1, wall.number, NONE, d, 0, strength);
            }
        }

        private void searchPairs() {
            for (Barrier first = chain; first != null; first = first.next) {
                imageOne.mirror(source, first);
                for (Barrier second = chain; second != null && first.stands; second = second.next) {
                    imageTwo.mirror(imageOne, second);
                    if (second == first || !second.stands || !second.meets(imageTwo, target, turnTwo)
                            || !first.meets(imageOne, turnTwo, turnOne)) {
                        continue;
                    }
                    int d = imageTwo.squareTo(target);
                    int strength = spread(d) * first.back / 100 * second.back / 100;
                    strength = carry(strength, source, turnOne);
                    strength = carry(strength, turnOne, turnTwo);
                    strength = carry(strength, turnTwo, target);
                    keep(2, first.number, second.number, d, 0, strength);
                }
            }
        }

        private void searchCorners() {
            for (Barrier wall = chain; wall != null; wall = wall.next) {
                for (int end = 0; end < 2; end++) {
                    wall.putEnd(end, turnOne);
                    int a = source.squareTo(turnOne);
                    int b = turnOne.squareTo(target);
                    if (!wall.stands || a == 0 || b == 0 || isEarlierCorner(wall)) {
                        continue;
                    }
                    int strength = spread(a + b + 2 * rootOf(a * b)) * bend / 100;
                    strength = carry(strength, source, turnOne);
                    strength = carry(strength, turnOne, target);
                    keep(3, wall.number, end, a, b, strength);
                }
            }
        }

        private boolean isEarlierCorner(Barrier until) {
            for (Barrier wall = chain; wall != null && wall != until; wall = wall.next) {
                if (wall.stands && wall.endsAt(turnOne)) {
                    return true;
                }
            }
            return false;
        }

        private int spread(int d) {
            return power * 1000 / Math.max(1, d);
        }

        /** What is left of a strength behind a leg; NONE: the way is barred. */
        private int carry(int strength, Spot from, Spot to) {
            int left = strength;
            for (Barrier wall = chain; wall != null && left != NONE; wall = wall.next) {
                if (wall.stands && wall.meets(from, to, crossing)) {
                    left = wall.through == 0 ? NONE : left * wall.through / 100;
                }
            }
            return left;
        }

        private void keep(int kind, int first, int second, int a, int b, int strength) {
            int row = found.size();
            if (strength == NONE || row >= order.length || !found.add()) {
                return;
            }
            found.put(row, KIND, kind);
            found.put(row, FIRST, first);
            found.put(row, SECOND, second);
            found.put(row, A, a);
            found.put(row, B, b);
            found.put(row, STRENGTH, strength);
            order[row] = row;
            total += strength;
        }

        /** As they were found by kind and walls, the ways need but be put by lengths, as long ones left as they are. */
        void sort() {
            for (int k = 1; k < found.size() && k < order.length; k++) {
                int moved = order[k];
                int to = k;
                while (to > 0 && isLonger(order[to - 1], moved)) {
                    order[to] = order[to - 1];
                    to--;
                }
                order[to] = moved;
            }
        }

        private boolean isLonger(int one, int other) {
            return orderOfLengths(found.get(one, A), found.get(one, B), found.get(other, A), found.get(other, B)) > 0;
        }

        /** Sight is looked for first, so its way is the first that was found. */
        boolean sawTarget() {
            return found.size() > 0 && found.get(0, KIND) == 0;
        }

        int size() {
            return found.size();
        }

        int tell(int k, int what) {
            return k >= 0 && k < order.length ? found.get(order[k], what) : ABSENT;
        }

        int lateness(int k) {
            return rootOf(10000 * tell(k, A)) + rootOf(10000 * tell(k, B));
        }

        /** The root, cut. */
        static int rootOf(int square) {
            int root = 0;
            for (int bit = 1 << 15; bit > 0; bit >>= 1) {
                long tried = root + bit;
                if (tried * tried <= square) {
                    root += bit;
                }
            }
            return root;
        }

        /** The sign of (root of a + root of b) - (root of c + root of d), without a root drawn. */
        static int orderOfLengths(long a, long b, long c, long d) {
            // Both sums squared: the sign is that of more + root of (4ab) - root of (4cd).
            long more = a + b - c - d;
            return more < 0 ? -signOf(-more, 4 * c * d, 4 * a * b) : signOf(more, 4 * a * b, 4 * c * d);
        }

        /** The sign of p + root of u - root of v, p not below 0. */
        private static int signOf(long p, long u, long v) {
            // Squared again: that of 2p * root of u - rest.
            long rest = v - u - p * p;
            if (rest < 0) {
                return 1;
            }
            long left = 4 * p * p * u;
            long right = rest * rest;
            return left < right ? -1 : left > right ? 1 : 0;
        }
    }

    /** Signals, remembered as long as the town stays as it is; who is heard, who serves a walk. */
    private static final class Hearing {
        private static final int KEYS = SENDERS * SIDE * SIDE + SITES * NEEDS;

        private final State told;
        private final Finder finder;
        private final int[] memo = new int[KEYS];
        private final int[] stamps = new int[KEYS];
        private final int[] signals = new int[SENDERS];
        private final int[] servers = new int[SECONDS];
        private int stamp = 1;
        private int listed = NONE;

        Hearing(State told, Finder finder) {
            this.told = told;
            this.finder = finder;
        }

        void forget() {
            stamp++;
            listed = NONE;
        }

        private static int keyOf(int sender, int x, int y) {
            return (sender * SIDE + y) * SIDE + x;
        }

        int signalAt(int sender, int x, int y) {
            if (!told.senderStands(sender) || !isPoint(x, y)) {
                return NONE;
            }
            int key = keyOf(sender, x, y);
            if (key < 0 || key >= memo.length || key >= stamps.length) {
                return NONE;
            }
            if (stamps[key] != stamp) {
                memo[key] = finder.search(told.senders, sender, State.SENDER_POWER, x, y);
                stamps[key] = stamp;
                listed = NONE;
            }
            return memo[key];
        }

        int siteSignal(int site, int need) {
            if (!told.sites.has(site) || !told.needs.has(need)) {
                return NONE;
            }
            int key = keyOf(SENDERS, 0, 0) + site * NEEDS + need;
            if (key < 0 || key >= memo.length || key >= stamps.length) {
                return NONE;
            }
            if (stamps[key] != stamp) {
                int x = told.needs.get(need, 0);
                int y = told.needs.get(need, 1);
                memo[key] = finder.search(told.sites, site, State.SITE_POWER, x, y);
                stamps[key] = stamp;
                listed = NONE;
            }
            return memo[key];
        }

        /** The finder has the ways of a sender to a point, in order; false: there is none such. */
        boolean list(int sender, int x, int y) {
            if (!told.senderStands(sender) || !isPoint(x, y)) {
                return false;
            }
            int key = keyOf(sender, x, y);
            if (listed != key) {
                finder.search(told.senders, sender, State.SENDER_POWER, x, y);
                finder.sort();
                listed = key;
            }
            return true;
        }

        /** Takes the signals of all senders at a point; who is heard, and who best, is told of these. */
        void listen(int x, int y) {
            for (int sender = 0; sender < signals.length; sender++) {
                signals[sender] = Math.max(0, signalAt(sender, x, y));
            }
        }

        boolean isHeard(int sender) {
            if (sender < 0 || sender >= signals.length || signals[sender] <= 0) {
                return false;
            }
            int colour = told.senders.get(sender, State.SENDER_COLOUR);
            long against = told.setting(NOISE);
            for (int other = 0; other < signals.length; other++) {
                if (other != sender && told.senders.get(other, State.SENDER_COLOUR) == colour) {
                    against += signals[other];
                }
            }
            return signals[sender] * 100L >= told.setting(SHARE) * against;
        }

        int heardBits() {
            int bits = 0;
            for (int sender = 0; sender < signals.length; sender++) {
                bits |= isHeard(sender) ? 1 << sender : 0;
            }
            return bits;
        }

        int bestHeard() {
            int best = NONE;
            int most = 0;
            for (int sender = 0; sender < signals.length; sender++) {
                if (signals[sender] > most && isHeard(sender)) {
                    best = sender;
                    most = signals[sender];
                }
            }
            return best;
        }

        private boolean isWish(int best, int serving) {
            if (best == serving || best < 0 || best >= signals.length || serving < 0 || serving >= signals.length) {
                return false;
            }
            return signals[best] * 100L > (100L + told.setting(MARGIN)) * signals[serving];
        }

        void followWalk() {
            int serving = NONE;
            int wishes = 0;
            for (int second = 0; second < told.walk.size() && second < servers.length; second++) {
                listen(told.walk.get(second, 0), told.walk.get(second, 1));
                int best = bestHeard();
                boolean kept = serving != NONE && isHeard(serving);
                wishes = kept && isWish(best, serving) ? wishes + 1 : 0;
                if (!kept || wishes >= told.setting(HOLD)) {
                    serving = best;
                    wishes = 0;
                }
                servers[second] = serving;
            }
        }

        int servedIn(int second) {
            return second >= 0 && second < servers.length ? servers[second] : NONE;
        }

        int changes() {
            int changes = 0;
            for (int second = 1; second < told.walk.size(); second++) {
                int earlier = servedIn(second - 1);
                int later = servedIn(second);
                changes += earlier != NONE && later != NONE && earlier != later ? 1 : 0;
            }
            return changes;
        }

        int lost() {
            int lost = 0;
            for (int second = 0; second < told.walk.size(); second++) {
                lost += servedIn(second) == NONE ? 1 : 0;
            }
            return lost;
        }

        boolean fits(int x, int y) {
            for (int sender = 0; sender < told.senders.size(); sender++) {
                int from = told.senders.get(sender, State.SPAN_FROM);
                if (from == NONE || !told.senderStands(sender)) {
                    continue;
                }
                int signal = signalAt(sender, x, y);
                if (signal < from || signal > told.senders.get(sender, State.SPAN_TO)) {
                    return false;
                }
            }
            return true;
        }
    }

    /** Sites chosen so that all needs are served, numbers of senders so that none clash. */
    private static final class Planner {
        private final State told;
        private final Hearing hearing;
        private final int[] siteReach = new int[SITES];
        private final int[] senderReach = new int[SENDERS];
        private final int[] paintRow = new int[SENDERS];
        int cost = NONE;
        int fewest = NONE;
        int chosen = NONE;
        int paints = 0;

        Planner(State told, Hearing hearing) {
            this.told = told;
            this.hearing = hearing;
        }

        /** Leaves cost, fewest and chosen at NONE, if no set serves all needs. */
        void chooseSites() {
            findSiteReaches();
            cost = NONE;
            fewest = NONE;
            chosen = NONE;
            int all = (1 << told.needs.size()) - 1;
            for (int set = 0; set < 1 << told.sites.size(); set++) {
                if (reachOf(set) == all) {
                    offer(set, costOf(set), Integer.bitCount(set));
                }
            }
        }

        private void findSiteReaches() {
            for (int site = 0; site < siteReach.length; site++) {
                int reach = 0;
                for (int need = 0; need < told.needs.size(); need++) {
                    reach |= hearing.siteSignal(site, need) >= told.setting(LEAST) ? 1 << need : 0;
                }
                siteReach[site] = reach;
            }
        }

        private int reachOf(int set) {
            int reach = 0;
            for (int site = 0; site < siteReach.length; site++) {
                reach |= (set >> site & 1) == 1 ? siteReach[site] : 0;
            }
            return reach;
        }

        private int costOf(int set) {
            int sum = 0;
            for (int site = 0; site < told.sites.size(); site++) {
                sum += (set >> site & 1) == 1 ? told.sites.get(site, State.SITE_COST) : 0;
            }
            return sum;
        }

        /** Sets come by their bits, so of equal ones the first stays. */
        private void offer(int set, int setCost, int members) {
            if (cost == NONE || setCost < cost || setCost == cost && members < fewest) {
                cost = setCost;
                fewest = members;
                chosen = set;
            }
        }

        /** Bits of the needs that each sender reaches, NONE of one that does not stand. */
        void findReaches() {
            for (int sender = 0; sender < senderReach.length; sender++) {
                int reach = told.senderStands(sender) ? 0 : NONE;
                for (int need = 0; need < told.needs.size(); need++) {
                    int signal = hearing.signalAt(sender, told.needs.get(need, 0), told.needs.get(need, 1));
                    reach |= signal >= told.setting(LEAST) ? 1 << need : 0;
                }
                senderReach[sender] = reach;
            }
        }

        boolean clashing(int a, int b) {
            return areClashing(senderReach, a, b);
        }

        private static boolean areClashing(int[] reaches, int a, int b) {
            if (a < 0 || a >= reaches.length || b < 0 || b >= reaches.length) {
                return false;
            }
            return reaches[a] != NONE && reaches[b] != NONE && (reaches[a] & reaches[b]) != 0;
        }

        void paintSenders() {
            findReaches();
            paints = 0;
            while (!paintFrom(0, paints, paintRow, senderReach) && paints < SENDERS) {
                paints++;
            }
        }

        /** Paints a sender and all behind it with the least row of numbers below limit; false: there is none. */
        private static boolean paintFrom(int sender, int limit, int[] row, int[] reaches) {
            if (sender < 0 || sender >= row.length || sender >= reaches.length) {
                return true;
            }
            if (reaches[sender] == NONE) {
                row[sender] = NONE;
                return paintFrom(sender + 1, limit, row, reaches);
            }
            for (int paint = 0; paint < limit; paint++) {
                row[sender] = paint;
                if (isFree(sender, row, reaches) && paintFrom(sender + 1, limit, row, reaches)) {
                    return true;
                }
            }
            return false;
        }

        private static boolean isFree(int sender, int[] row, int[] reaches) {
            for (int other = 0; other < sender && sender < row.length; other++) {
                if (row[other] == row[sender] && areClashing(reaches, other, sender)) {
                    return false;
                }
            }
            return true;
        }

        int paintOf(int sender) {
            return sender >= 0 && sender < paintRow.length ? paintRow[sender] : NONE;
        }
    }

    /** Tells by the law who may send in which hour. */
    private static final class Court {
        private static final int HEARD_MOST = 9999;

        private final State told;
        private final Hearing hearing;
        private final int[] loudest = new int[SENDERS];
        int breachHour = NONE;
        int breachSender = NONE;

        Court(State told, Hearing hearing) {
            this.told = told;
            this.hearing = hearing;
        }

        void hearSenders() {
            for (int sender = 0; sender < loudest.length; sender++) {
                int most = 0;
                for (int need = 0; need < told.needs.size(); need++) {
                    most = Math.max(most, hearing.signalAt(sender, told.needs.get(need, 0), told.needs.get(need, 1)));
                }
                loudest[sender] = Math.min(HEARD_MOST, most);
            }
        }

        void findBreach() {
            breachHour = NONE;
            breachSender = NONE;
            hearSenders();
            for (int hour = 0; hour < HOURS && breachHour == NONE; hour++) {
                for (int sender = 0; sender < SENDERS && breachHour == NONE; sender++) {
                    int line = told.senderStands(sender) ? lineFor(sender, hour) : NONE;
                    if (told.law.get(line, LawText.VERDICT) == LawText.BAR) {
                        breachHour = hour;
                        breachSender = sender;
                    }
                }
            }
        }

        int lineFor(int sender, int hour) {
            for (int line = 0; line < told.law.size(); line++) {
                if (isFitting(line, sender, hour)) {
                    return line;
                }
            }
            return NONE;
        }

        private boolean isFitting(int line, int sender, int hour) {
            int tests = told.law.get(line, LawText.TEST_COUNT);
            for (int test = 0; test < tests; test++) {
                int column = LawText.columnOf(test);
                boolean turned = told.law.get(line, column + LawText.NOT) == 1;
                if (holds(line, column, sender, hour) == turned) {
                    return false;
                }
            }
            return true;
        }

        private boolean holds(int line, int column, int sender, int hour) {
            int about = told.law.get(line, column + LawText.ABOUT);
            if (about == LawText.ALONE) {
                return isAlone(sender);
            }
            int value = valueOf(about, sender, hour);
            int number = told.law.get(line, column + LawText.NUMBER);
            switch (told.law.get(line, column + LawText.SIGN)) {
                case '<': return value < number;
                case '>': return value > number;
                default: return value == number;
            }
        }

        private boolean isAlone(int sender) {
            int colour = told.senders.get(sender, State.SENDER_COLOUR);
            for (int other = 0; other < told.senders.size(); other++) {
                boolean same = told.senders.get(other, State.SENDER_COLOUR) == colour;
                if (other != sender && same && told.senderStands(other)) {
                    return false;
                }
            }
            return true;
        }

        private int valueOf(int about, int sender, int hour) {
            switch (about) {
                case LawText.COLOUR: return told.senders.get(sender, State.SENDER_COLOUR);
                case LawText.POWER: return told.senders.get(sender, State.SENDER_POWER);
                case LawText.X: return told.senders.get(sender, 0);
                case LawText.Y: return told.senders.get(sender, 1);
                case LawText.HOUR: return hour;
                default: return sender >= 0 && sender < loudest.length ? loudest[sender] : 0;
            }
        }
    }

    /** The tokens of a tape one by one, and the fault that was found. */
    private static final class Tokens {
        private static final int END = 0;
        private static final int WORD = 1;
        private static final int DIGITS = 2;
        private static final int SIGN = 3;
        private static final int OTHER = 4;

        private Table tape;
        private int kind = END;
        private int start = 0;
        private int stop = 0;
        private int fault = 0;
        private int faultPlace = NONE;

        Tokens(Table tape) {
            this.tape = tape;
        }

        void open(Table text) {
            tape = text;
            stop = 0;
            fault = 0;
            faultPlace = NONE;
            advance();
        }

        int from() {
            return start;
        }

        private static int sortOf(int sign) {
            if (sign >= 'a' && sign <= 'z') {
                return WORD;
            }
            if (sign >= '0' && sign <= '9') {
                return DIGITS;
            }
            return sign == ':' || sign == ';' || sign == '<' || sign == '>' || sign == '=' ? SIGN : OTHER;
        }

        private static boolean isBlank(int sign) {
            return sign == ' ' || sign == '\n';
        }

        void advance() {
            start = stop;
            while (start < tape.size() && isBlank(tape.get(start, 0))) {
                start++;
            }
            stop = start;
            kind = END;
            if (start >= tape.size()) {
                return;
            }
            kind = sortOf(tape.get(start, 0));
            stop = start + 1;
            while ((kind == WORD || kind == DIGITS) && stop < tape.size() && sortOf(tape.get(stop, 0)) == kind) {
                stop++;
            }
        }

        /** Whether another line is to be read. */
        boolean goOn() {
            return kind != END && fault != 1;
        }

        boolean isWord(String word) {
            if (kind != WORD || stop - start != word.length()) {
                return false;
            }
            for (int k = 0; k < word.length(); k++) {
                if (tape.get(start + k, 0) != word.charAt(k)) {
                    return false;
                }
            }
            return true;
        }

        boolean isNumber() {
            return kind == DIGITS && stop - start <= 4;
        }

        int number() {
            int number = 0;
            for (int at = start; at < stop && at < start + 4; at++) {
                number = number * 10 + tape.get(at, 0) - '0';
            }
            return number;
        }

        int sign() {
            return kind == SIGN ? tape.get(start, 0) : NONE;
        }

        /** Goes over a sign or a word that has to stand here. */
        boolean pass(boolean due) {
            if (due) {
                advance();
            } else {
                note(1, start);
            }
            return due;
        }

        /** Of other faults the first one stays; they are found by their places. */
        void note(int number, int place) {
            if (number == 1 || fault == 0) {
                fault = number;
                faultPlace = place;
            }
        }

        boolean isClean() {
            return fault == 0;
        }

        void tell(State told) {
            told.fault = fault;
            told.faultPlace = faultPlace;
        }
    }

    /** Reads a tape as a town. */
    private static final class TownText {
        private static final int WALL = 0;
        private static final int SENDER = 1;
        private static final int NEED = 2;
        private static final int SITE = 3;
        private static final int NUMBERS = 5;
        /** By sorts of lines, NUMBERS each. */
        private static final int[] LOW = {0, 0, 0, 0, 0, 0, 0, 0, 1, 0, 0, 0, 0, 0, 0, 0, 0, 1, 1, 0};
        private static final int[] HIGH = {20, 20, 20, 20, 4, 20, 20, 5, 9999, 0, 20, 20, 0, 0, 0, 20, 20, 9999, 999, 0};

        private final Tokens tokens = new Tokens(new Table(0, 1));
        private final int[] numbers = new int[NUMBERS];
        private final int[] placesOf = new int[NUMBERS];

        /** How many lines; NONE: a fault, and nothing came. */
        int read(State told) {
            int walls = told.walls.size();
            int senders = told.senders.size();
            int sites = told.sites.size();
            int needs = told.needs.size();
            tokens.open(told.tape);
            int lines = 0;
            while (lines < TAPE && tokens.goOn()) {
                readLine(told);
                lines++;
            }
            tokens.tell(told);
            if (tokens.isClean()) {
                return lines;
            }
            told.walls.cut(walls);
            told.senders.cut(senders);
            told.sites.cut(sites);
            told.needs.cut(needs);
            return NONE;
        }

        private int sortHere() {
            if (tokens.isWord("wall")) {
                return WALL;
            }
            if (tokens.isWord("sender")) {
                return SENDER;
            }
            if (tokens.isWord("need")) {
                return NEED;
            }
            return tokens.isWord("site") ? SITE : NONE;
        }

        private static int numbersOf(int sort) {
            switch (sort) {
                case WALL: return 5;
                case NEED: return 2;
                default: return 4;
            }
        }

        private void readLine(State told) {
            int sort = sortHere();
            int word = tokens.from();
            if (!tokens.pass(sort != NONE)) {
                return;
            }
            for (int k = 0; k < numbersOf(sort) && k < NUMBERS; k++) {
                numbers[k] = tokens.number();
                placesOf[k] = tokens.from();
                if (!tokens.pass(tokens.isNumber())) {
                    return;
                }
            }
            if (tokens.pass(tokens.sign() == ';') && tokens.isClean()) {
                take(told, sort, word);
            }
        }

        private void take(State told, int sort, int word) {
            Table table = tableOf(told, sort);
            if (sort == WALL && isCrooked()) {
                tokens.note(3, word);
            } else if (table.full()) {
                tokens.note(4, word);
            } else if (areNumbersFine(sort)) {
                addTo(table, sort, told.day);
            }
        }

        private static Table tableOf(State told, int sort) {
            switch (sort) {
                case WALL: return told.walls;
                case SENDER: return told.senders;
                case NEED: return told.needs;
                default: return told.sites;
            }
        }

        private boolean isCrooked() {
            boolean sameX = numbers[0] == numbers[2];
            boolean sameY = numbers[1] == numbers[3];
            return sameX == sameY;
        }

        private boolean areNumbersFine(int sort) {
            for (int k = 0; k < numbersOf(sort) && k < NUMBERS; k++) {
                int bound = sort * NUMBERS + k;
                if (bound < 0 || bound >= LOW.length || bound >= HIGH.length) {
                    return false;
                }
                if (numbers[k] < LOW[bound] || numbers[k] > HIGH[bound]) {
                    tokens.note(2, placesOf[k]);
                    return false;
                }
            }
            return true;
        }

        private void addTo(Table table, int sort, int day) {
            int row = table.size();
            table.add();
            for (int k = 0; k < numbersOf(sort) && k < NUMBERS; k++) {
                table.put(row, k, numbers[k]);
            }
            if (sort == WALL) {
                // The end with the lesser x, y is the first one, however the wall was told.
                table.put(row, 0, Math.min(numbers[0], numbers[2]));
                table.put(row, 1, Math.min(numbers[1], numbers[3]));
                table.put(row, 2, Math.max(numbers[0], numbers[2]));
                table.put(row, 3, Math.max(numbers[1], numbers[3]));
                table.put(row, State.WALL_TOLD, day);
                table.put(row, State.WALL_PULLED, NONE);
            } else if (sort == SENDER) {
                table.put(row, State.SENDER_TOLD, day);
                table.put(row, State.SENDER_PULLED, NONE);
                table.put(row, State.SPAN_FROM, NONE);
                table.put(row, State.SPAN_TO, NONE);
            }
        }
    }

    /** Reads a tape as a law: a row for each line, in it its verdict and its tests. */
    private static final class LawText {
        static final int VERDICT = 0;
        static final int TEST_COUNT = 1;
        static final int NOT = 0;
        static final int ABOUT = 1;
        static final int SIGN = 2;
        static final int NUMBER = 3;
        static final int WIDTH = 2 + 4 * TESTS;
        static final int MAY = 0;
        static final int BAR = 1;
        static final int ALONE = 0;
        static final int COLOUR = 1;
        static final int POWER = 2;
        static final int X = 3;
        static final int Y = 4;
        static final int HOUR = 5;
        static final int HEARD = 6;

        private final Tokens tokens = new Tokens(new Table(0, 1));
        private final Table draft = new Table(LINES, WIDTH);

        static int columnOf(int test) {
            return 2 + 4 * test;
        }

        /** How many lines; NONE: a fault, and the law stays as it was. */
        int read(State told) {
            draft.cut(0);
            tokens.open(told.tape);
            int lines = 0;
            while (lines < TAPE && tokens.goOn()) {
                readLine(lines);
                lines++;
            }
            tokens.tell(told);
            if (!tokens.isClean()) {
                return NONE;
            }
            told.law.copy(draft);
            return lines;
        }

        private void readLine(int line) {
            if (!draft.add()) {
                tokens.note(5, tokens.from());
            }
            int tests = 0;
            if (tokens.isWord("if")) {
                do {
                    tokens.advance();
                    if (!readTest(line, tests)) {
                        return;
                    }
                    tests++;
                } while (tests < TAPE && tokens.isWord("and"));
                if (!tokens.pass(tokens.sign() == ':')) {
                    return;
                }
            }
            boolean bar = tokens.isWord("bar");
            draft.put(line, VERDICT, bar ? BAR : MAY);
            draft.put(line, TEST_COUNT, tests);
            if (tokens.pass(bar || tokens.isWord("may"))) {
                tokens.pass(tokens.sign() == ';');
            }
        }

        /** A test that is one too many is read, but has no room in the draft. */
        private boolean readTest(int line, int test) {
            if (test >= TESTS) {
                tokens.note(5, tokens.from());
            }
            boolean turned = tokens.isWord("not");
            if (turned) {
                tokens.advance();
            }
            int about = aboutHere();
            int column = columnOf(test);
            draft.put(line, column + NOT, turned ? 1 : 0);
            draft.put(line, column + ABOUT, about);
            if (!tokens.pass(about != NONE)) {
                return false;
            }
            return about == ALONE || readNumber(line, column);
        }

        private boolean readNumber(int line, int column) {
            int sign = tokens.sign();
            draft.put(line, column + SIGN, sign);
            if (!tokens.pass(sign == '<' || sign == '>' || sign == '=')) {
                return false;
            }
            draft.put(line, column + NUMBER, tokens.number());
            return tokens.pass(tokens.isNumber());
        }

        private int aboutHere() {
            if (tokens.isWord("alone")) {
                return ALONE;
            }
            if (tokens.isWord("colour")) {
                return COLOUR;
            }
            if (tokens.isWord("power")) {
                return POWER;
            }
            if (tokens.isWord("x")) {
                return X;
            }
            if (tokens.isWord("y")) {
                return Y;
            }
            if (tokens.isWord("hour")) {
                return HOUR;
            }
            return tokens.isWord("heard") ? HEARD : NONE;
        }
    }
}
