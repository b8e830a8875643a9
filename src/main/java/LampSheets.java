/** A theatre of shadows with one lamp: see README.md. */
public final class LampSheets {
    public static final int NONE = -1;

    private static final int MOST_SHEETS = 6;
    private static final int MOST_SLOTS = 4;
    private static final int MOST_SCENES = 6;
    private static final int MOST_FRAMES = 12;
    private static final int MOST_ORDERED = 8;
    private static final int MOST_SEEN = 6;
    private static final int MOST_PLAYS = 50;
    private static final int FARTHEST = 12;
    private static final int LIGHTS = 3;
    private static final int OUTER_SEAT = 3;
    private static final int NOT_ORDERED = -3;
    private static final int NO_GUESS = -2;
    private static final int USES_TO_FRAY = 10;
    /* No count of spots or moves comes near it. */
    private static final int MORE_THAN_ANY = 1000000;

    private static final int STROKES = 0;
    private static final int MARKS = 1;
    private static final int RULES = 2;

    /* A text's command is kept as its kind and four numbers. */
    private static final int MOST_COMMANDS = 20;
    private static final int COMMAND = 5;

    private static final int CUT = 0;
    private static final int TURN = 2;
    private static final int FLIP = 3;

    /* A mark's kind is what told() answers. */
    private static final int ANYTHING = 3;

    private static final int NEVER = 0;
    private static final int WITH = 1;
    private static final int APART = 2;

    /* The screen is held as three numbers of 48 bits, four lines of spots each. */
    private static final int SPOTS = 144;
    private static final int SIDE = 12;
    private static final int PARTS = 3;
    private static final int PART_SPOTS = 48;
    private static final long WHOLE_PART = 0xFFFFFFFFFFFFL;

    private final Tape tape;
    private final State now;
    private final State kept;
    private final Stage stage;
    private final Search search;
    private final Tour tour;
    private boolean hasImage;

    public LampSheets() {
        tape = new Tape();
        now = new State();
        kept = new State();
        stage = new Stage(now);
        search = new Search(now, stage);
        tour = new Tour();
        hasImage = false;
    }

    public int feed(int a, int b, int c, int d, int e) {
        if (tape.length > Tape.MOST_BYTES - Tape.FED_BYTES) {
            return NONE;
        }
        tape.add(a);
        tape.add(b);
        tape.add(c);
        tape.add(d);
        tape.add(e);
        return tape.length;
    }

    public boolean end(int n) {
        if (n < 0 || n > tape.length) {
            return false;
        }
        tape.length = n;
        return true;
    }

    public int sheet(int mask) throws IllegalArgumentException, UnsupportedOperationException {
        int size = tape.useUp();
        if (mask < 1 || mask > 7) {
            tape.fault = NONE;
            throw new IllegalArgumentException("the mask is none");
        }
        readText(STROKES, size);
        if (now.sheets >= MOST_SHEETS) {
            throw new UnsupportedOperationException("there are 6 sheets");
        }
        return now.addSheet(mask, tape.stroked(Cells.ALL));
    }

    public int strokes(int sheet) throws IndexOutOfBoundsException, IllegalArgumentException, IllegalStateException {
        int size = tape.useUp();
        needSheet(sheet);
        readText(STROKES, size);
        int cells = tape.stroked(now.cells[sheet]);
        if (Cells.fallen(cells) != 0) {
            throw new IllegalStateException("some cell would be loose");
        }
        int others = Integer.bitCount(cells ^ now.cells[sheet]);
        now.cells[sheet] = cells;
        now.pasted[sheet] = cells;
        return others;
    }

    public int scene() throws IllegalArgumentException, UnsupportedOperationException {
        readText(MARKS, tape.useUp());
        if (now.scenes >= MOST_SCENES) {
            throw new UnsupportedOperationException("there are 6 scenes");
        }
        return now.addScene(tape);
    }

    public int fault() {
        return tape.fault;
    }

    public int dark(int sheet) throws IndexOutOfBoundsException {
        needSheet(sheet);
        return now.cells[sheet];
    }

    public int loose(int sheet) throws IndexOutOfBoundsException {
        needSheet(sheet);
        return Cells.fallen(now.cells[sheet]);
    }

    public int bridges(int sheet) throws IndexOutOfBoundsException {
        needSheet(sheet);
        return Cells.holders(now.cells[sheet]);
    }

    public int slot(int k, int x, int y) throws IllegalArgumentException, UnsupportedOperationException {
        if (k < 1 || k > 3 || x < -FARTHEST || x > FARTHEST || y < -FARTHEST || y > FARTHEST) {
            throw new IllegalArgumentException("a number of the slot is none");
        }
        if (now.slots >= MOST_SLOTS) {
            throw new UnsupportedOperationException("there are 4 slots");
        }
        return now.addSlot(k, x, y);
    }

    public int lamp(int width) throws IllegalArgumentException {
        if (width < 0 || width > 1) {
            throw new IllegalArgumentException("the width is not 0 or 1");
        }
        int before = now.width;
        now.width = width;
        return before;
    }

    public int hands(int n) throws IllegalArgumentException {
        if (n < 1 || n > 2) {
            throw new IllegalArgumentException("the hands are not 1 or 2");
        }
        int before = now.hands;
        now.hands = n;
        return before;
    }

    public int put(int slot, int sheet) throws IndexOutOfBoundsException {
        needSlot(slot);
        if (sheet != NONE) {
            needSheet(sheet);
        }
        int before = now.setting[slot];
        State.set(now.setting, slot, sheet);
        return before;
    }

    public int in(int slot) throws IndexOutOfBoundsException {
        needSlot(slot);
        return now.setting[slot];
    }

    public int shade(int spot, int light, int seat) throws IndexOutOfBoundsException {
        needSpot(spot);
        needView(light, seat);
        stage.look(0, light, seat);
        stage.shine(0, now.setting, 0);
        return stage.shadeOf(spot);
    }

    public int shades(int shade, int light, int seat) throws IndexOutOfBoundsException, IllegalArgumentException {
        needView(light, seat);
        if (shade < 0 || shade > 2) {
            throw new IllegalArgumentException("the shade is none");
        }
        stage.look(0, light, seat);
        stage.shine(0, now.setting, 0);
        return stage.spotsOf(shade);
    }

    public int told(int scene, int spot) throws IndexOutOfBoundsException {
        needScene(scene);
        needSpot(spot);
        return now.wish(scene, spot);
    }

    public int wrong(int scene, int light, int seat, int nth)
            throws IndexOutOfBoundsException, IllegalArgumentException {
        needScene(scene);
        needView(light, seat);
        if (nth < NONE) {
            throw new IllegalArgumentException("nth is below NONE");
        }
        stage.look(0, light, seat);
        int misses = stage.misses(0, scene, now.setting);
        return nth == NONE ? misses : stage.missAt(nth);
    }

    public int best(int scene, int light, int seat, int slot) throws IndexOutOfBoundsException {
        needScene(scene);
        needView(light, seat);
        if (slot != NONE) {
            needSlot(slot);
        }
        search.over(scene, light, seat);
        return slot == NONE ? search.fewest : search.first[slot];
    }

    public int rules() throws IllegalArgumentException {
        readText(RULES, tape.useUp());
        now.rules.learn(tape);
        return now.rules.size;
    }

    public boolean allowed() {
        return now.rules.permit(now.setting, now.slotK);
    }

    public int step(int scene, int light, int seat) throws IndexOutOfBoundsException {
        needScene(scene);
        needView(light, seat);
        stage.look(0, light, seat);
        return search.oneBetter(scene);
    }

    public int seats(int scene, int light) throws IndexOutOfBoundsException {
        needScene(scene);
        needView(light, 0);
        int found = 0;
        for (int seat = -OUTER_SEAT; seat <= OUTER_SEAT; seat++) {
            stage.look(0, light, seat);
            if (stage.misses(0, scene, now.setting) == 0) {
                found |= 1 << (seat + OUTER_SEAT);
            }
        }
        return found;
    }

    public int holes(int sheet) throws IndexOutOfBoundsException {
        needSheet(sheet);
        return Cells.partsOf(Cells.ALL & ~now.cells[sheet]);
    }

    public int lasts(int sheet) throws IndexOutOfBoundsException {
        needSheet(sheet);
        return Cells.fraysTillFallen(now.cells[sheet]);
    }

    public int idle(int light, int seat) throws IndexOutOfBoundsException {
        needView(light, seat);
        stage.look(0, light, seat);
        return search.useless();
    }

    public int unlike(int frame, int other, int light, int seat) throws IndexOutOfBoundsException {
        needFrame(frame);
        needFrame(other);
        needView(light, seat);
        stage.look(0, light, seat);
        stage.shine(0, now.frameRows, frame * MOST_SLOTS);
        stage.remember();
        stage.shine(0, now.frameRows, other * MOST_SLOTS);
        return stage.othersThanRemembered();
    }

    public int shaped(int sheet, int cells) throws IndexOutOfBoundsException, IllegalArgumentException {
        needSheet(sheet);
        if (cells < 0 || cells > Cells.ALL) {
            throw new IllegalArgumentException("the cells are not 25 bits");
        }
        return Cells.fewestStrokes(now.cells[sheet], cells);
    }

    public int order(int k) throws IllegalArgumentException {
        if (k < NONE) {
            throw new IllegalArgumentException("k is below NONE");
        }
        if (now.frames > MOST_ORDERED) {
            return NOT_ORDERED;
        }
        if (k >= now.frames) {
            return NONE;
        }
        tour.plan(now);
        return k == NONE ? tour.length() : tour.stop(k);
    }

    public int together(int slot) throws IndexOutOfBoundsException {
        if (slot != NONE) {
            needSlot(slot);
        }
        search.overSeen();
        return slot == NONE ? search.fewest : search.first[slot];
    }

    public int bound(int scene, int light, int seat) throws IndexOutOfBoundsException {
        needScene(scene);
        needView(light, seat);
        search.over(scene, light, seat);
        return search.alwaysMissed();
    }

    public int helps(int sheet, int scene, int light, int seat)
            throws IndexOutOfBoundsException, IllegalStateException {
        needSheet(sheet);
        needScene(scene);
        needView(light, seat);
        int slot = State.slotOf(now.setting, 0, sheet);
        if (slot == NONE) {
            throw new IllegalStateException("the sheet is in no slot");
        }
        stage.look(0, light, seat);
        return search.missesWithout(slot, scene) - stage.misses(0, scene, now.setting);
    }

    public int anew(int sheet, int scene, int light, int seat)
            throws IndexOutOfBoundsException, IllegalStateException {
        needSheet(sheet);
        needScene(scene);
        needView(light, seat);
        int slot = State.slotOf(now.setting, 0, sheet);
        if (now.width != 0 || slot == NONE || !now.keepsOff(sheet, light)) {
            throw new IllegalStateException("the sheet cannot be cut anew");
        }
        stage.look(0, light, seat);
        int others = 0;
        for (int cell = 0; cell < Cells.COUNT; cell++) {
            if (otherAnew(slot, scene, seat, 1 << cell)) {
                others |= 1 << cell;
            }
        }
        return others;
    }

    public int frame() throws UnsupportedOperationException {
        if (now.frames >= MOST_FRAMES) {
            throw new UnsupportedOperationException("there are 12 frames");
        }
        return now.addFrame();
    }

    public int moves(int from, int to) throws IndexOutOfBoundsException {
        needFrame(from);
        needFrame(to);
        return now.frameMoves(from, to);
    }

    public int row() {
        int together = 0;
        for (int frame = 1; frame < now.frames; frame++) {
            together += now.frameMoves(frame - 1, frame);
        }
        return together;
    }

    public int take(int frame) throws IndexOutOfBoundsException {
        needFrame(frame);
        int at = frame * MOST_SLOTS;
        int needed = State.movesBetween(now.setting, 0, now.frameRows, at);
        System.arraycopy(now.frameRows, at, now.setting, 0, MOST_SLOTS);
        return needed;
    }

    public int play(int times) throws IllegalArgumentException {
        if (times < 1 || times > MOST_PLAYS) {
            throw new IllegalArgumentException("the times are not 1 to 50");
        }
        int frayed = 0;
        for (int i = 0; i < times; i++) {
            frayed += now.playFrames();
        }
        return frayed;
    }

    public int uses(int sheet) throws IndexOutOfBoundsException {
        needSheet(sheet);
        return now.uses[sheet];
    }

    public int paste(int sheet) throws IndexOutOfBoundsException {
        needSheet(sheet);
        int others = Integer.bitCount(now.cells[sheet] ^ now.pasted[sheet]);
        now.cells[sheet] = now.pasted[sheet];
        return others;
    }

    public int seen(int scene, int light, int seat) throws IndexOutOfBoundsException, UnsupportedOperationException {
        needScene(scene);
        needView(light, seat);
        if (now.seen >= MOST_SEEN) {
            throw new UnsupportedOperationException("6 were seen");
        }
        return now.addSeen(scene, light, seat);
    }

    public int guess(int slot) throws IndexOutOfBoundsException {
        if (slot != NONE) {
            needSlot(slot);
        }
        search.overSeen();
        if (slot == NONE) {
            return search.perfect;
        }
        return search.perfect == 0 ? NO_GUESS : search.first[slot];
    }

    public void image() {
        kept.copy(now);
        hasImage = true;
    }

    public boolean back() {
        if (!hasImage) {
            return false;
        }
        now.copy(kept);
        return true;
    }

    public int count(int what) {
        switch (what) {
            case 0:
                return now.sheets;
            case 1:
                return now.slots;
            case 2:
                return now.scenes;
            case 3:
                return now.frames;
            case 4:
                return now.seen;
            case 5:
                return now.width;
            case 6:
                return now.hands;
            case 7:
                return State.sheetsIn(now.setting);
            case 8:
                return now.darkCells();
            case 9:
                return now.rules.size;
            default:
                return NONE;
        }
    }

    private void readText(int grammar, int size) {
        tape.open(grammar, size, now.sheets, now.slots);
        if (!tape.parse()) {
            tape.fault = tape.at;
            throw new IllegalArgumentException("the text is wrong");
        }
    }

    /* The view 0 is looked at already; only its shadow of the sheet in the slot is cast otherwise. */
    private boolean otherAnew(int slot, int scene, int seat, int cell) {
        int cells = now.cells[now.setting[slot]];
        stage.cast(0, slot, now.setting[slot], seat, cells | cell);
        int withIt = stage.misses(0, scene, now.setting);
        stage.cast(0, slot, now.setting[slot], seat, cells & ~cell);
        int without = stage.misses(0, scene, now.setting);
        boolean isDark = (cells & cell) != 0;
        return isDark ? without < withIt : withIt < without;
    }

    private void needSheet(int sheet) {
        if (sheet < 0 || sheet >= now.sheets) {
            throw new IndexOutOfBoundsException("no such sheet");
        }
    }

    private void needSlot(int slot) {
        if (slot < 0 || slot >= now.slots) {
            throw new IndexOutOfBoundsException("no such slot");
        }
    }

    private void needScene(int scene) {
        if (scene < 0 || scene >= now.scenes) {
            throw new IndexOutOfBoundsException("no such scene");
        }
    }

    private void needFrame(int frame) {
        if (frame < 0 || frame >= now.frames) {
            throw new IndexOutOfBoundsException("no such frame");
        }
    }

    private void needSpot(int spot) {
        if (spot < 0 || spot >= SPOTS) {
            throw new IndexOutOfBoundsException("no such spot");
        }
    }

    private void needView(int light, int seat) {
        if (light < 0 || light >= LIGHTS || seat < -OUTER_SEAT || seat > OUTER_SEAT) {
            throw new IndexOutOfBoundsException("no such light or seat");
        }
    }

    /** The cells of one sheet, as 25 bits. */
    private static final class Cells {
        static final int COUNT = 25;
        static final int ALL = 0x1FFFFFF;
        private static final int LINE = 0x1F;
        private static final int LEFT = 0x108421;
        private static final int RIGHT = 0x1084210;
        private static final int EDGE = LEFT | RIGHT | LINE | LINE << 20;
        private static final int CORNERS = 0x1100011;
        private static final int MOST_HOLDERS = 4;
        /* There are not more ways to take up to four of 25. */
        private static final int MOST_WAYS = 12650;

        static int beside(int cells) {
            int across = (cells & ~RIGHT) << 1 | (cells & ~LEFT) >> 1;
            return (across | cells << 5 | cells >> 5) & ALL;
        }

        /* What of the cells hangs together with those at the start. */
        private static int joined(int start, int cells) {
            int held = start & cells;
            for (int i = 0; i < COUNT; i++) {
                int more = (held | beside(held)) & cells;
                if (more == held) {
                    return held;
                }
                held = more;
            }
            return held;
        }

        static int fallen(int dark) {
            return dark & ~joined(EDGE, dark);
        }

        static int partsOf(int cells) {
            int left = cells;
            int parts = 0;
            for (int i = 0; i < COUNT && left != 0; i++) {
                left &= ~joined(left & -left, left);
                parts++;
            }
            return parts;
        }

        static int holders(int dark) {
            for (int n = 0; n <= MOST_HOLDERS; n++) {
                int found = holdersOf(n, dark);
                if (found != NONE) {
                    return found;
                }
            }
            return NONE;
        }

        /* Goes up through all numbers of n bits, so that the first that fits is the least.
           A corner never helps: the cells beside it are at the edge themselves. */
        private static int holdersOf(int n, int dark) {
            int cells = (1 << n) - 1;
            for (int way = 0; way < MOST_WAYS && cells <= ALL; way++) {
                if ((cells & (dark | CORNERS)) == 0 && fallen(dark | cells) == 0) {
                    return cells;
                }
                if (cells == 0) {
                    return NONE;
                }
                cells = nextOfAsManyBits(cells);
            }
            return NONE;
        }

        private static int nextOfAsManyBits(int bits) {
            int low = bits & -bits;
            int carried = bits + low;
            int rest = Integer.bitCount(bits & ~carried) - 1;
            return carried | (1 << rest) - 1;
        }

        /* The cell that goes when a sheet frays, as a bit; 0 if none does. */
        static int frayCell(int dark) {
            int worn = dark & beside(ALL & ~dark);
            return worn & -worn;
        }

        static int fraysTillFallen(int dark) {
            int cells = dark;
            for (int frays = 0; frays <= COUNT; frays++) {
                if (fallen(cells) != 0) {
                    return frays;
                }
                int cell = frayCell(cells);
                if (cell == 0) {
                    return NONE;
                }
                cells &= ~cell;
            }
            return NONE;
        }

        static int box(int x, int y, int w, int h) {
            int line = ((1 << w) - 1) << x;
            int cells = 0;
            for (int i = y; i < y + h; i++) {
                cells |= line << 5 * i;
            }
            return cells;
        }

        static int turned(int cells) {
            int after = 0;
            for (int y = 0; y < 5; y++) {
                for (int x = 0; x < 5; x++) {
                    after |= (cells >> 5 * (4 - x) + y & 1) << 5 * y + x;
                }
            }
            return after;
        }

        static int flipped(int cells) {
            int after = 0;
            for (int x = 0; x < 5; x++) {
                after |= (cells >> 4 - x & LEFT) << x;
            }
            return after;
        }

        static int fewestStrokes(int from, int to) {
            if (from == to) {
                return 0;
            }
            int unturned = turned(turned(turned(to)));
            int unflipped = flipped(to);
            if (inOneStroke(from, to, unturned, unflipped)) {
                return 1;
            }
            if (inOneStroke(turned(from), to, unturned, unflipped)
                    || inOneStroke(flipped(from), to, unturned, unflipped)) {
                return 2;
            }
            for (int y = 0; y < 5; y++) {
                for (int h = 1; h <= 5 - y; h++) {
                    if (byBoxOfLines(from, to, y, h, unturned, unflipped)) {
                        return 2;
                    }
                }
            }
            return NONE;
        }

        private static boolean byBoxOfLines(int from, int to, int y, int h, int unturned, int unflipped) {
            for (int x = 0; x < 5; x++) {
                for (int w = 1; w <= 5 - x; w++) {
                    int box = box(x, y, w, h);
                    if (inOneStroke(from & ~box, to, unturned, unflipped)
                            || inOneStroke(from | box, to, unturned, unflipped)) {
                        return true;
                    }
                }
            }
            return false;
        }

        /* The least box round what differs is the one that can do no harm beside it. */
        private static boolean inOneStroke(int from, int to, int unturned, int unflipped) {
            if (from == unturned || from == unflipped) {
                return true;
            }
            boolean onlyCut = (to & ~from) == 0;
            boolean onlyPaste = (from & ~to) == 0;
            if (!onlyCut && !onlyPaste) {
                return false;
            }
            int box = boxRound(from ^ to);
            return onlyCut && (box & to) == 0 || onlyPaste && (box & ~to) == 0;
        }

        private static int boxRound(int cells) {
            int columns = 0;
            for (int y = 0; y < 5; y++) {
                columns |= cells >> 5 * y & LINE;
            }
            int low = columns & -columns;
            int upToHigh = columns | columns >> 1;
            upToHigh |= upToHigh >> 2;
            upToHigh |= upToHigh >> 4;
            int line = upToHigh & -low;
            int found = 0;
            for (int y = 0; y < 5; y++) {
                boolean begun = (cells & (1 << 5 * y + 5) - 1) != 0;
                boolean goesOn = cells >> 5 * y != 0;
                if (begun && goesOn) {
                    found |= line << 5 * y;
                }
            }
            return found;
        }
    }

    /** The bytes that were fed, and the reading of texts from them. */
    private static final class Tape {
        static final int MOST_BYTES = 400;
        static final int FED_BYTES = 20;

        final int[] bytes = new int[MOST_BYTES];
        int length = 0;
        int fault = NONE;
        /* What the latest text told: commands, each its kind and four numbers. */
        final int[] found = new int[MOST_COMMANDS * COMMAND];
        int commands = 0;
        /* Where the reading stands: after a text that is wrong, at its first wrong byte. */
        int at;
        private int size;
        private int grammar;
        private int sheets;
        private int slots;

        void add(int number) {
            for (int shift = 24; shift >= 0 && length < MOST_BYTES; shift -= 8) {
                bytes[length] = number >> shift & 255;
                length++;
            }
        }

        /* The bytes themselves stay till others come, so that the text can still be read. */
        int useUp() {
            int used = length;
            length = 0;
            return used;
        }

        void open(int grammar, int size, int sheets, int slots) {
            this.grammar = grammar;
            this.size = size;
            this.sheets = sheets;
            this.slots = slots;
            at = 0;
            commands = 0;
            fault = NONE;
        }

        /* When it fails, it stands at the first wrong byte, or at the text's end. */
        boolean parse() {
            skipBlanks();
            if (at >= size) {
                return true;
            }
            for (int n = 0; n < MOST_COMMANDS; n++) {
                if (!parseCommand()) {
                    return false;
                }
                skipBlanks();
                if (at >= size) {
                    return true;
                }
                if (bytes[at] != ';') {
                    return false;
                }
                at++;
                skipBlanks();
            }
            return false;
        }

        private boolean parseCommand() {
            int begin = at;
            for (int i = at; i < size && bytes[i] >= 'a' && bytes[i] <= 'z'; i++) {
                at++;
            }
            int kind = kindOf(begin);
            if (kind == NONE) {
                at = begin;
                return false;
            }
            int command = commands * COMMAND;
            found[command] = kind;
            commands++;
            if (grammar == RULES) {
                return parsePair(kind, command);
            }
            if (grammar == MARKS) {
                return parseBox(SIDE, command);
            }
            return kind == TURN || kind == FLIP || parseBox(5, command);
        }

        private boolean parseBox(int side, int command) {
            int x = parseNumber(0, side - 1);
            if (x == NONE) {
                return false;
            }
            int y = parseNumber(0, side - 1);
            if (y == NONE) {
                return false;
            }
            int w = parseNumber(1, side - x);
            if (w == NONE) {
                return false;
            }
            int h = parseNumber(1, side - y);
            found[command + 1] = x;
            found[command + 2] = y;
            found[command + 3] = w;
            found[command + 4] = h;
            return h != NONE;
        }

        private boolean parsePair(int kind, int command) {
            int a = parseNumber(0, sheets - 1);
            if (a == NONE) {
                return false;
            }
            skipBlanks();
            int begin = at;
            int b = parseNumber(0, (kind == NEVER ? slots : sheets) - 1);
            if (b == NONE) {
                return false;
            }
            if (kind != NEVER && a == b) {
                at = begin;
                return false;
            }
            found[command + 1] = a;
            found[command + 2] = b;
            return true;
        }

        /* NONE, and it stays at the number's begin, if that cannot stand there. */
        private int parseNumber(int least, int most) {
            skipBlanks();
            int value = 0;
            int behind = at;
            for (int i = at; i < size && bytes[i] >= '0' && bytes[i] <= '9'; i++) {
                value = value * 10 + bytes[i] - '0';
                behind++;
            }
            int digits = behind - at;
            if (digits < 1 || digits > 2 || value < least || value > most) {
                return NONE;
            }
            at = behind;
            return value;
        }

        private void skipBlanks() {
            for (int i = at; i < size && bytes[i] == ' '; i++) {
                at++;
            }
        }

        private int kindOf(int begin) {
            for (int kind = 0; kind < 4; kind++) {
                if (wordIs(begin, wordOf(grammar, kind))) {
                    return kind;
                }
            }
            return NONE;
        }

        private boolean wordIs(int begin, String word) {
            if (at - begin != word.length()) {
                return false;
            }
            for (int i = 0; i < word.length(); i++) {
                if (bytes[begin + i] != word.charAt(i)) {
                    return false;
                }
            }
            return true;
        }

        private static String wordOf(int grammar, int kind) {
            switch (grammar * 4 + kind) {
                case 0:
                    return "cut";
                case 1:
                    return "paste";
                case 2:
                    return "turn";
                case 3:
                    return "flip";
                case 4:
                    return "light";
                case 5:
                    return "half";
                case 6:
                    return "dark";
                case 7:
                    return "any";
                case 8:
                    return "never";
                case 9:
                    return "with";
                case 10:
                    return "apart";
                default:
                    return "near";
            }
        }

        /* What the strokes of the latest text make of the cells. */
        int stroked(int cells) {
            int after = cells;
            for (int i = 0; i < commands; i++) {
                int at = i * COMMAND;
                int kind = found[at];
                if (kind == TURN) {
                    after = Cells.turned(after);
                } else if (kind == FLIP) {
                    after = Cells.flipped(after);
                } else {
                    int box = Cells.box(found[at + 1], found[at + 2], found[at + 3], found[at + 4]);
                    after = kind == CUT ? after & ~box : after | box;
                }
            }
            return after;
        }
    }

    /** All that an image keeps. */
    private static final class State {
        int sheets = 0;
        final int[] cells = new int[MOST_SHEETS];
        /* What the cells are when they are pasted. */
        final int[] pasted = new int[MOST_SHEETS];
        final int[] masks = new int[MOST_SHEETS];
        final int[] uses = new int[MOST_SHEETS];
        int slots = 0;
        final int[] slotK = new int[MOST_SLOTS];
        final int[] slotX = new int[MOST_SLOTS];
        final int[] slotY = new int[MOST_SLOTS];
        /* Slots that are not there yet have none too, here and in frames. */
        final int[] setting = new int[MOST_SLOTS];
        int scenes = 0;
        /* Of each scene the spots that are to be 0, to be 1, and to be 2. */
        final long[] wishes = new long[MOST_SCENES * 3 * PARTS];
        final Rules rules = new Rules();
        int frames = 0;
        final int[] frameRows = new int[MOST_FRAMES * MOST_SLOTS];
        int seen = 0;
        /* Of each that was seen its scene, light and seat. */
        final int[] seenRows = new int[MOST_SEEN * 3];
        int width = 0;
        int hands = 2;

        State() {
            for (int slot = 0; slot < MOST_SLOTS; slot++) {
                setting[slot] = NONE;
            }
        }

        void copy(State other) {
            sheets = other.sheets;
            slots = other.slots;
            scenes = other.scenes;
            frames = other.frames;
            seen = other.seen;
            width = other.width;
            hands = other.hands;
            System.arraycopy(other.cells, 0, cells, 0, MOST_SHEETS);
            System.arraycopy(other.pasted, 0, pasted, 0, MOST_SHEETS);
            System.arraycopy(other.masks, 0, masks, 0, MOST_SHEETS);
            System.arraycopy(other.uses, 0, uses, 0, MOST_SHEETS);
            System.arraycopy(other.slotK, 0, slotK, 0, MOST_SLOTS);
            System.arraycopy(other.slotX, 0, slotX, 0, MOST_SLOTS);
            System.arraycopy(other.slotY, 0, slotY, 0, MOST_SLOTS);
            System.arraycopy(other.setting, 0, setting, 0, MOST_SLOTS);
            System.arraycopy(other.wishes, 0, wishes, 0, MOST_SCENES * 3 * PARTS);
            System.arraycopy(other.frameRows, 0, frameRows, 0, MOST_FRAMES * MOST_SLOTS);
            System.arraycopy(other.seenRows, 0, seenRows, 0, MOST_SEEN * 3);
            rules.copyRules(other.rules);
        }

        int addSheet(int mask, int told) {
            cells[sheets] = told;
            pasted[sheets] = told;
            masks[sheets] = mask;
            uses[sheets] = 0;
            sheets++;
            return sheets - 1;
        }

        int addSlot(int k, int x, int y) {
            slotK[slots] = k;
            slotX[slots] = x;
            slotY[slots] = y;
            slots++;
            return slots - 1;
        }

        int addScene(Tape tape) {
            int begin = scenes * 3 * PARTS;
            for (int part = 0; part < PARTS; part++) {
                wishes[begin + part] = WHOLE_PART;
                wishes[begin + PARTS + part] = 0;
                wishes[begin + 2 * PARTS + part] = 0;
            }
            for (int i = 0; i < tape.commands; i++) {
                int at = i * COMMAND;
                long line = ((1L << tape.found[at + 3]) - 1) << tape.found[at + 1];
                int top = tape.found[at + 2];
                for (int y = top; y < top + tape.found[at + 4]; y++) {
                    markLine(begin + (y >> 2), tape.found[at], line << SIDE * (y & 3));
                }
            }
            scenes++;
            return scenes - 1;
        }

        private void markLine(int at, int kind, long spots) {
            for (int wish = 0; wish < ANYTHING; wish++) {
                int here = at + wish * PARTS;
                wishes[here] = wish == kind ? wishes[here] | spots : wishes[here] & ~spots;
            }
        }

        int wish(int scene, int spot) {
            int at = scene * 3 * PARTS + spot / PART_SPOTS;
            for (int wish = 0; wish < ANYTHING; wish++) {
                if ((wishes[at + wish * PARTS] >> spot % PART_SPOTS & 1) != 0) {
                    return wish;
                }
            }
            return ANYTHING;
        }

        int addFrame() {
            System.arraycopy(setting, 0, frameRows, frames * MOST_SLOTS, MOST_SLOTS);
            frames++;
            return frames - 1;
        }

        int addSeen(int scene, int light, int seat) {
            seenRows[seen * 3] = scene;
            seenRows[seen * 3 + 1] = light;
            seenRows[seen * 3 + 2] = seat;
            seen++;
            return seen;
        }

        boolean keepsOff(int sheet, int light) {
            return (masks[sheet] >> light & 1) != 0;
        }

        int darkCells() {
            int together = 0;
            for (int sheet = 0; sheet < sheets; sheet++) {
                together += Integer.bitCount(cells[sheet]);
            }
            return together;
        }

        int playFrames() {
            int frayed = 0;
            for (int i = 0; i < frames * MOST_SLOTS; i++) {
                if (frameRows[i] != NONE) {
                    frayed += useSheet(frameRows[i]);
                }
            }
            return frayed;
        }

        private int useSheet(int sheet) {
            uses[sheet]++;
            if (uses[sheet] % USES_TO_FRAY != 0) {
                return 0;
            }
            int cell = Cells.frayCell(cells[sheet]);
            cells[sheet] &= ~cell;
            return cell == 0 ? 0 : 1;
        }

        int frameMoves(int from, int to) {
            return movesBetween(frameRows, from * MOST_SLOTS, frameRows, to * MOST_SLOTS);
        }

        /* Each sheet that goes elsewhere needs one move into a hand and one out of it. That is always
           enough, however many hands there are: slots that are free at the end of a chain are filled
           first, and round a ring of slots never more than two sheets are in the one hand at once. */
        static int movesBetween(int[] from, int fromAt, int[] to, int toAt) {
            int needed = 0;
            for (int sheet = 0; sheet < MOST_SHEETS; sheet++) {
                if (slotOf(from, fromAt, sheet) != slotOf(to, toAt, sheet)) {
                    needed += 2;
                }
            }
            return needed;
        }

        static int slotOf(int[] settings, int at, int sheet) {
            for (int slot = 0; slot < MOST_SLOTS; slot++) {
                if (settings[at + slot] == sheet) {
                    return slot;
                }
            }
            return NONE;
        }

        static int sheetsIn(int[] setting) {
            int found = 0;
            for (int slot = 0; slot < MOST_SLOTS; slot++) {
                if (setting[slot] != NONE) {
                    found++;
                }
            }
            return found;
        }

        static void set(int[] setting, int slot, int sheet) {
            for (int other = 0; other < MOST_SLOTS; other++) {
                if (setting[other] == sheet) {
                    setting[other] = NONE;
                }
            }
            setting[slot] = sheet;
        }
    }

    /** What may stand with what. */
    private static final class Rules {
        int size = 0;
        private final int[] rows = new int[MOST_COMMANDS * 3];
        private final int[] slotOfSheet = new int[MOST_SHEETS];

        void learn(Tape tape) {
            for (int i = 0; i < tape.commands; i++) {
                for (int j = 0; j < 3; j++) {
                    rows[i * 3 + j] = tape.found[i * COMMAND + j];
                }
            }
            size = tape.commands;
        }

        void copyRules(Rules other) {
            size = other.size;
            System.arraycopy(other.rows, 0, rows, 0, MOST_COMMANDS * 3);
        }

        boolean permit(int[] setting, int[] slotK) {
            if (size == 0) {
                return true;
            }
            for (int sheet = 0; sheet < MOST_SHEETS; sheet++) {
                slotOfSheet[sheet] = NONE;
            }
            for (int slot = 0; slot < MOST_SLOTS; slot++) {
                if (setting[slot] != NONE) {
                    slotOfSheet[setting[slot]] = slot;
                }
            }
            for (int i = 0; i < size; i++) {
                if (!permits(i * 3, slotK)) {
                    return false;
                }
            }
            return true;
        }

        private boolean permits(int rule, int[] slotK) {
            int kind = rows[rule];
            int slotA = slotOfSheet[rows[rule + 1]];
            if (kind == NEVER) {
                return slotA != rows[rule + 2];
            }
            int slotB = slotOfSheet[rows[rule + 2]];
            if (kind == WITH) {
                return (slotA == NONE) == (slotB == NONE);
            }
            if (slotA == NONE || slotB == NONE) {
                return true;
            }
            return kind != APART && slotK[slotA] > slotK[slotB];
        }
    }

    /** The shadows on the screen, for up to six views (a light and a seat each). */
    private static final class Stage {
        private static final int GROWN = 15;
        private static final int LINE_SPOTS = 0xFFF;

        private final State state;
        /* Of each view, slot and sheet the spots in full shade, and those in half shade. */
        private final long[] full = new long[MOST_SEEN * MOST_SLOTS * MOST_SHEETS * PARTS];
        private final long[] half = new long[MOST_SEEN * MOST_SLOTS * MOST_SHEETS * PARTS];
        private final int[] covered = new int[GROWN];
        private final int[] deepest = new int[GROWN];
        /* The spots of shade 2, and of shade 1, of the setting that was shone at last. */
        private final long[] two = new long[PARTS];
        private final long[] one = new long[PARTS];
        private final long[] twoBefore = new long[PARTS];
        private final long[] oneBefore = new long[PARTS];
        final long[] missed = new long[PARTS];

        Stage(State state) {
            this.state = state;
        }

        void look(int view, int light, int seat) {
            for (int slot = 0; slot < state.slots; slot++) {
                for (int sheet = 0; sheet < state.sheets; sheet++) {
                    int cells = state.keepsOff(sheet, light) ? state.cells[sheet] : 0;
                    cast(view, slot, sheet, seat, cells);
                }
            }
        }

        private static int place(int view, int slot, int sheet) {
            return ((view * MOST_SLOTS + slot) * MOST_SHEETS + sheet) * PARTS;
        }

        void cast(int view, int slot, int sheet, int seat, int cells) {
            int at = place(view, slot, sheet);
            for (int part = 0; part < PARTS; part++) {
                full[at + part] = 0;
                half[at + part] = 0;
            }
            if (cells == 0) {
                return;
            }
            int nearer = state.slotK[slot] - 1;
            grow(cells, nearer + 1);
            for (int i = 0; i < state.width * nearer; i++) {
                shrinkOnce();
            }
            int left = state.slotX[slot] + seat * nearer;
            int top = state.slotY[slot];
            for (int line = 0; line < GROWN; line++) {
                int y = top + line;
                if (y >= 0 && y < SIDE) {
                    int shift = SIDE * (y & 3);
                    long deep = (long) onScreen(deepest[line], left) << shift;
                    long all = (long) onScreen(covered[line], left) << shift;
                    full[at + (y >> 2)] |= deep;
                    half[at + (y >> 2)] |= all & ~deep;
                }
            }
        }

        private static int onScreen(int line, int left) {
            return (left >= 0 ? line << left : line >> -left) & LINE_SPOTS;
        }

        private void grow(int cells, int k) {
            int line = 0;
            for (int y = 0; y < 5; y++) {
                int spots = 0;
                for (int x = 0; x < 5; x++) {
                    if ((cells >> 5 * y + x & 1) != 0) {
                        spots |= ((1 << k) - 1) << k * x;
                    }
                }
                for (int i = 0; i < k && line < GROWN; i++) {
                    covered[line] = spots;
                    deepest[line] = spots;
                    line++;
                }
            }
            for (int i = line; i < GROWN; i++) {
                covered[i] = 0;
                deepest[i] = 0;
            }
        }

        /* Shrinking by one step twice is shrinking by two steps, along x and y together. */
        private void shrinkOnce() {
            int above = 0;
            for (int line = 0; line < GROWN; line++) {
                int here = deepest[line];
                int below = line + 1 < GROWN ? deepest[line + 1] : 0;
                deepest[line] = here & here << 1 & here >> 1 & above & below;
                above = here;
            }
        }

        /* Takes the four slots of a setting that begins there in the settings. */
        void shine(int view, int[] settings, int from) {
            for (int part = 0; part < PARTS; part++) {
                two[part] = 0;
                one[part] = 0;
            }
            for (int slot = 0; slot < MOST_SLOTS; slot++) {
                int sheet = settings[from + slot];
                if (sheet == NONE) {
                    continue;
                }
                int at = place(view, slot, sheet);
                for (int part = 0; part < PARTS; part++) {
                    long pale = half[at + part];
                    two[part] |= full[at + part] | one[part] & pale;
                    one[part] |= pale;
                }
            }
            for (int part = 0; part < PARTS; part++) {
                one[part] &= ~two[part];
            }
        }

        int shadeOf(int spot) {
            int part = spot / PART_SPOTS;
            int bit = spot % PART_SPOTS;
            if ((two[part] >> bit & 1) != 0) {
                return 2;
            }
            return (one[part] >> bit & 1) != 0 ? 1 : 0;
        }

        int spotsOf(int shade) {
            int twos = 0;
            int ones = 0;
            for (int part = 0; part < PARTS; part++) {
                twos += Long.bitCount(two[part]);
                ones += Long.bitCount(one[part]);
            }
            if (shade == 2) {
                return twos;
            }
            return shade == 1 ? ones : SPOTS - twos - ones;
        }

        void remember() {
            for (int part = 0; part < PARTS; part++) {
                twoBefore[part] = two[part];
                oneBefore[part] = one[part];
            }
        }

        int othersThanRemembered() {
            int others = 0;
            for (int part = 0; part < PARTS; part++) {
                others += Long.bitCount(twoBefore[part] ^ two[part] | oneBefore[part] ^ one[part]);
            }
            return others;
        }

        int misses(int view, int scene, int[] setting) {
            shine(view, setting, 0);
            int at = scene * 3 * PARTS;
            int together = 0;
            for (int part = 0; part < PARTS; part++) {
                long zeroWish = state.wishes[at + part];
                long oneWish = state.wishes[at + PARTS + part];
                long twoWish = state.wishes[at + 2 * PARTS + part];
                missed[part] = zeroWish & (one[part] | two[part]) | oneWish & ~one[part] | twoWish & ~two[part];
                together += Long.bitCount(missed[part]);
            }
            return together;
        }

        int missAt(int nth) {
            int left = nth;
            for (int spot = 0; spot < SPOTS; spot++) {
                if ((missed[spot / PART_SPOTS] >> spot % PART_SPOTS & 1) != 0) {
                    if (left == 0) {
                        return spot;
                    }
                    left--;
                }
            }
            return NONE;
        }
    }

    /** Goes through settings that are not the one that is set. */
    private static final class Search {
        private final State state;
        private final Stage stage;
        private final int[] trial = new int[MOST_SLOTS];
        private final int[] viewScenes = new int[MOST_SEEN];
        private int views = 0;
        /* What the latest search found. */
        final int[] first = new int[MOST_SLOTS];
        private int firstSheets;
        int fewest;
        int perfect;
        private final long[] always = new long[PARTS];

        Search(State state, Stage stage) {
            this.state = state;
            this.stage = stage;
        }

        void over(int scene, int light, int seat) {
            views = 1;
            viewScenes[0] = scene;
            stage.look(0, light, seat);
            searchAll();
        }

        void overSeen() {
            views = state.seen;
            for (int view = 0; view < views; view++) {
                int row = view * 3;
                viewScenes[view] = state.seenRows[row];
                stage.look(view, state.seenRows[row + 1], state.seenRows[row + 2]);
            }
            searchAll();
        }

        int alwaysMissed() {
            int together = 0;
            for (int part = 0; part < PARTS; part++) {
                together += Long.bitCount(always[part]);
            }
            return together;
        }

        private int choices(int slot) {
            return slot < state.slots ? state.sheets : 0;
        }

        private static boolean clash(int sheet, int other) {
            return sheet != NONE && sheet == other;
        }

        /* The setting of nothing comes first and is always permitted, so that something is found. */
        private void searchAll() {
            fewest = MORE_THAN_ANY;
            firstSheets = 0;
            perfect = 0;
            for (int part = 0; part < PARTS; part++) {
                always[part] = WHOLE_PART;
            }
            for (int a = NONE; a < choices(0); a++) {
                trial[0] = a;
                for (int b = NONE; b < choices(1); b++) {
                    if (clash(b, a)) {
                        continue;
                    }
                    trial[1] = b;
                    for (int c = NONE; c < choices(2); c++) {
                        if (clash(c, a) || clash(c, b)) {
                            continue;
                        }
                        trial[2] = c;
                        for (int d = NONE; d < choices(3); d++) {
                            if (!clash(d, a) && !clash(d, b) && !clash(d, c)) {
                                trial[3] = d;
                                weigh();
                            }
                        }
                    }
                }
            }
        }

        private void weigh() {
            if (!state.rules.permit(trial, state.slotK)) {
                return;
            }
            int misses = 0;
            for (int view = 0; view < views && misses <= fewest; view++) {
                misses += stage.misses(view, viewScenes[view], trial);
                if (view == 0) {
                    keepAlwaysMissed();
                }
            }
            if (misses == 0) {
                perfect++;
            }
            int sheets = State.sheetsIn(trial);
            if (misses < fewest || misses == fewest && sheets < firstSheets) {
                fewest = misses;
                firstSheets = sheets;
                System.arraycopy(trial, 0, first, 0, MOST_SLOTS);
            }
        }

        private void keepAlwaysMissed() {
            for (int part = 0; part < PARTS; part++) {
                always[part] &= stage.missed[part];
            }
        }

        private void tryPut(int slot, int sheet) {
            System.arraycopy(state.setting, 0, trial, 0, MOST_SLOTS);
            State.set(trial, slot, sheet);
        }

        /* These need the view 0 to be looked at already. */
        int oneBetter(int scene) {
            int least = stage.misses(0, scene, state.setting);
            int found = NONE;
            for (int slot = 0; slot < state.slots; slot++) {
                for (int sheet = NONE; sheet < state.sheets; sheet++) {
                    tryPut(slot, sheet);
                    if (!state.rules.permit(trial, state.slotK)) {
                        continue;
                    }
                    int misses = stage.misses(0, scene, trial);
                    if (misses < least) {
                        least = misses;
                        found = 10 * slot + sheet + 1;
                    }
                }
            }
            return found;
        }

        int missesWithout(int slot, int scene) {
            tryPut(slot, NONE);
            return stage.misses(0, scene, trial);
        }

        int useless() {
            stage.shine(0, state.setting, 0);
            stage.remember();
            int found = 0;
            for (int slot = 0; slot < MOST_SLOTS; slot++) {
                int sheet = state.setting[slot];
                if (sheet == NONE) {
                    continue;
                }
                tryPut(slot, NONE);
                stage.shine(0, trial, 0);
                if (stage.othersThanRemembered() == 0) {
                    found |= 1 << sheet;
                }
            }
            return found;
        }
    }

    /** The order of up to eight frames by which the moves are the fewest. */
    private static final class Tour {
        /* By the frames behind 0 that were shown, as bits, and the latest: the moves that are left. */
        private final int[] left = new int[(1 << MOST_ORDERED - 1) * MOST_ORDERED];
        private final int[] costs = new int[MOST_ORDERED * MOST_ORDERED];
        private int frames = 0;

        void plan(State state) {
            frames = state.frames;
            for (int from = 0; from < frames; from++) {
                for (int to = 0; to < frames; to++) {
                    costs[from * MOST_ORDERED + to] = state.frameMoves(from, to);
                }
            }
            int shown = frames == 0 ? 0 : (1 << frames - 1) - 1;
            for (int bits = shown; bits >= 0; bits--) {
                for (int latest = 0; latest < MOST_ORDERED; latest++) {
                    int next = nextStop(bits, latest);
                    left[bits * MOST_ORDERED + latest] = next == NONE ? 0 : through(bits, latest, next);
                }
            }
        }

        private int through(int bits, int latest, int next) {
            int then = bits | 1 << next - 1;
            return costs[latest * MOST_ORDERED + next] + left[then * MOST_ORDERED + next];
        }

        private int nextStop(int bits, int latest) {
            int found = NONE;
            int least = MORE_THAN_ANY;
            for (int next = 1; next < frames; next++) {
                if ((bits >> next - 1 & 1) == 0) {
                    int needed = through(bits, latest, next);
                    if (needed < least) {
                        least = needed;
                        found = next;
                    }
                }
            }
            return found;
        }

        int length() {
            return left[0];
        }

        int stop(int k) {
            int bits = 0;
            int latest = 0;
            for (int i = 0; i < k && latest != NONE; i++) {
                latest = nextStop(bits, latest);
                if (latest != NONE) {
                    bits |= 1 << latest - 1;
                }
            }
            return latest;
        }
    }
}
