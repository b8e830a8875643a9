/** One method a promise (and some for the terms): ordinary inputs, edges, wrong inputs. */
public final class PromiseTest {
    private static final int NONE = LampSheets.NONE;
    private static final int ALL = (1 << 25) - 1;
    private static final int FAR = Integer.MAX_VALUE;
    private static final int LOW = Integer.MIN_VALUE;

    private PromiseTest() {
    }

    public static void main(String[] args) {
        newObject();
        feed();
        end();
        sheet();
        strokes();
        scene();
        fault();
        texts();
        dark();
        loose();
        bridges();
        slot();
        lamp();
        hands();
        put();
        in();
        shade();
        shades();
        told();
        wrong();
        best();
        rules();
        allowed();
        step();
        seats();
        holes();
        lasts();
        idle();
        unlike();
        shaped();
        order();
        together();
        bound();
        helps();
        anew();
        frame();
        moves();
        row();
        take();
        play();
        uses();
        paste();
        seen();
        guess();
        image();
        back();
        backToMany();
        count();
        Check.end();
    }

    private static void due(Object want, LampSheets x, String name, Object... args) {
        Check.due(want, x, name, args);
    }

    private static void noSuch(LampSheets x, String name, Object... args) {
        Check.due(Check.NO_SUCH, x, name, args);
    }

    private static void wrongArgument(LampSheets x, String name, Object... args) {
        Check.due(Check.WRONG_ARGUMENT, x, name, args);
    }

    private static void tooMany(LampSheets x, String name, Object... args) {
        Check.due(Check.TOO_MANY, x, name, args);
    }

    private static void wrongState(LampSheets x, String name, Object... args) {
        Check.due(Check.WRONG_STATE, x, name, args);
    }

    private static LampSheets made(String... sheets) {
        LampSheets x = new LampSheets();
        for (String text : sheets) {
            Check.text(x, text);
            x.sheet(7);
        }
        return x;
    }

    private static void scene(LampSheets x, String text) {
        Check.text(x, text);
        x.scene();
    }

    private static void rules(LampSheets x, String text) {
        Check.text(x, text);
        x.rules();
    }

    private static int bits(int... cells) {
        int bits = 0;
        for (int cell : cells) {
            bits |= 1 << cell;
        }
        return bits;
    }

    /** A sheet's text by which these cells alone are dark. */
    private static String only(int... cells) {
        StringBuilder text = new StringBuilder("cut 0 0 5 5");
        for (int cell : cells) {
            text.append(";paste ").append(cell % 5).append(' ').append(cell / 5).append(" 1 1");
        }
        return text.toString();
    }

    private static void newObject() {
        LampSheets x = new LampSheets();
        int[] counts = {0, 0, 0, 0, 0, 0, 2, 0, 0, 0};
        for (int what = 0; what < counts.length; what++) {
            due(counts[what], x, "count", what);
        }
        noSuch(x, "dark", 0);
        noSuch(x, "in", 0);
        noSuch(x, "told", 0, 0);
        noSuch(x, "take", 0);
        due(144, x, "shades", 0, 0, 0);
        due(true, x, "allowed");
        due(NONE, x, "fault");
        due(false, x, "back");
        if (LampSheets.NONE != -1) {
            Check.fail("NONE is not -1");
        }
    }

    private static void feed() {
        LampSheets x = new LampSheets();
        for (int n = 20; n <= 400; n += 20) {
            due(n, x, "feed", 0x20202020, 0x20202020, 0x20202020, 0x20202020, 0x20202020);
        }
        due(NONE, x, "feed", 0, 0, 0, 0, 0);
        due(false, x, "end", 401);
        due(true, x, "end", 381);
        due(NONE, x, "feed", 0, 0, 0, 0, 0);
        due(true, x, "end", 380);
        due(400, x, "feed", 0x20202020, 0x20202020, 0x20202020, 0x20202020, 0x20202020);
        due(0, x, "sheet", 7);
        due(20, x, "feed", 0x63757420, 0x30203020, 0x31203120, 0x20202020, 0xFF000000);
        wrongArgument(x, "sheet", 7);
        due(16, x, "fault");
        due(20, x, "feed", 0x63757420, 0x30203020, 0x31203120, 0x20202020, 0x20202020);
        due(1, x, "sheet", 7);
        due(ALL - 1, x, "dark", 1);
    }

    private static void end() {
        LampSheets x = new LampSheets();
        due(true, x, "end", 0);
        due(false, x, "end", 1);
        due(false, x, "end", -1);
        due(false, x, "end", LOW);
        due(false, x, "end", FAR);
        x.feed(0x74757269, 0, 0, 0, 0);
        due(false, x, "end", 21);
        due(false, x, "end", -1);
        due(true, x, "end", 20);
        due(true, x, "end", 3);
        due(false, x, "end", 4);
        due(23, x, "feed", 0x6E202020, 0x20202020, 0x20202020, 0x20202020, 0x20202020);
        due(0, x, "sheet", 1);
        due(NONE, x, "fault");
    }

    private static void sheet() {
        LampSheets x = new LampSheets();
        wrongArgument(x, "sheet", 0);
        wrongArgument(x, "sheet", 8);
        wrongArgument(x, "sheet", -1);
        Check.text(x, "cut");
        wrongArgument(x, "sheet", 1);
        due(false, x, "end", 1);
        due(0, x, "count", 0);
        Check.text(x, "cut 0 0 1 1");
        wrongArgument(x, "sheet", 9);
        due(false, x, "end", 1);
        Check.text(x, "cut 1 2 3 2");
        due(0, x, "sheet", 7);
        due(false, x, "end", 1);
        due(ALL & ~bits(11, 12, 13, 16, 17, 18), x, "dark", 0);
        Check.text(x, "cut 0 0 5 5; paste 1 0 3 1; turn");
        due(1, x, "sheet", 1);
        due(bits(9, 14, 19), x, "dark", 1);
        Check.text(x, only(0, 1, 5) + ";flip");
        due(2, x, "sheet", 1);
        due(bits(4, 3, 9), x, "dark", 2);
        Check.text(x, "cut 0 0 5 5;paste 2 2 1 1");
        due(3, x, "sheet", 1);
        due(4, x, "sheet", 1);
        due(ALL, x, "dark", 4);
        due(5, x, "sheet", 1);
        tooMany(x, "sheet", 1);
        wrongArgument(x, "sheet", 0);
        Check.text(x, "spin");
        wrongArgument(x, "sheet", 1);
        due(0, x, "fault");
        Check.text(x, "turn");
        tooMany(x, "sheet", 1);
        due(NONE, x, "fault");
        due(false, x, "end", 1);
        due(6, x, "count", 0);
    }

    private static void strokes() {
        LampSheets x = made("");
        Check.text(x, "cut 0 0 2 1; paste 1 0 1 1; cut 4 4 1 1");
        due(2, x, "strokes", 0);
        due(ALL & ~bits(0, 24), x, "dark", 0);
        due(0, x, "strokes", 0);
        Check.text(x, "turn");
        due(4, x, "strokes", 0);
        due(ALL & ~bits(4, 20), x, "dark", 0);
        Check.text(x, "turn");
        noSuch(x, "strokes", 1);
        due(false, x, "end", 1);
        noSuch(x, "strokes", -1);
        Check.text(x, "spin");
        noSuch(x, "strokes", 1);
        Check.text(x, "cut 1 1 3 3; paste 2 2 1 1; turns");
        wrongArgument(x, "strokes", 0);
        due(28, x, "fault");
        Check.text(x, "cut 1 1 3 3; paste 2 2 1 1");
        wrongState(x, "strokes", 0);
        due(NONE, x, "fault");
        due(false, x, "end", 1);
        due(ALL & ~bits(4, 20), x, "dark", 0);
        LampSheets y = made(only(12));
        wrongState(y, "strokes", 0);
        Check.text(y, "paste 0 2 2 1");
        due(2, y, "strokes", 0);
    }

    private static void scene() {
        LampSheets x = new LampSheets();
        Check.text(x, "dark 0 0 1 1;half 1 0 1 1;any 2 0 1 1;dark 3 0 2 1;light 4 0 1 1");
        due(0, x, "scene");
        due(false, x, "end", 1);
        int[] told = {2, 1, 3, 2, 0, 0};
        for (int spot = 0; spot < told.length; spot++) {
            due(told[spot], x, "told", 0, spot);
        }
        Check.text(x, "grey 0 0 1 1");
        wrongArgument(x, "scene");
        due(false, x, "end", 1);
        due(1, x, "count", 2);
        for (int scene = 1; scene < 6; scene++) {
            due(scene, x, "scene");
        }
        tooMany(x, "scene");
        Check.text(x, "dark 0 0");
        wrongArgument(x, "scene");
        due(8, x, "fault");
        due(6, x, "count", 2);
    }

    private static void fault() {
        LampSheets x = made("");
        due(NONE, x, "fault");
        Check.text(x, "turn;!");
        wrongArgument(x, "sheet", 1);
        due(5, x, "fault");
        noSuch(x, "dark", 9);
        due(5, x, "fault");
        x.image();
        x.back();
        due(5, x, "fault");
        wrongArgument(x, "sheet", 0);
        due(NONE, x, "fault");
        Check.text(x, "  apart 0");
        wrongArgument(x, "rules");
        due(9, x, "fault");
        due(0, x, "rules");
        due(NONE, x, "fault");
    }

    private static void wrongStrokes(int fault, String text) {
        LampSheets x = new LampSheets();
        Check.text(x, text);
        wrongArgument(x, "sheet", 7);
        due(fault, x, "fault");
    }

    private static void rightStrokes(int dark, String text) {
        LampSheets x = new LampSheets();
        Check.text(x, text);
        due(0, x, "sheet", 7);
        due(NONE, x, "fault");
        due(dark, x, "dark", 0);
    }

    private static void wrongMarks(int fault, String text) {
        LampSheets x = new LampSheets();
        Check.text(x, text);
        wrongArgument(x, "scene");
        due(fault, x, "fault");
    }

    private static void wrongRules(int fault, String text) {
        LampSheets x = made("", "", "");
        x.slot(1, 0, 0);
        Check.text(x, text);
        wrongArgument(x, "rules");
        due(fault, x, "fault");
    }

    private static void texts() {
        rightStrokes(ALL, "");
        rightStrokes(ALL, "    ");
        rightStrokes(0, "cut0 0 5 5");
        rightStrokes(0, " cut  00   00 05  5 ");
        rightStrokes(ALL, "turn;turn ; flip;  flip  ");
        rightStrokes(ALL & ~bits(24), "cut 4 4 1 1");
        wrongStrokes(0, ";");
        wrongStrokes(2, "  ;turn");
        wrongStrokes(5, "turn;");
        wrongStrokes(8, "turn ;  ");
        wrongStrokes(5, "turn;;turn");
        wrongStrokes(5, "turn flip");
        wrongStrokes(0, "turnflip");
        wrongStrokes(4, "turn0");
        wrongStrokes(0, "Cut 0 0 1 1");
        wrongStrokes(0, "cu");
        wrongStrokes(0, "cuts 0 0 1 1");
        wrongStrokes(0, "cutz 0 0 1 1");
        wrongStrokes(0, "5");
        wrongStrokes(3, "cut");
        wrongStrokes(5, "cut  ");
        wrongStrokes(4, "cut x");
        wrongStrokes(4, "cut -1 0 1 1");
        wrongStrokes(4, "cut 100 0 1 1");
        wrongStrokes(4, "cut 000 0 1 1");
        wrongStrokes(4, "cut 5 9 9 9");
        wrongStrokes(6, "cut 0 5 1 1");
        wrongStrokes(8, "cut 0 0 0 1");
        wrongStrokes(10, "cut 0 0 1 0");
        wrongStrokes(8, "cut 1 0 5 9");
        wrongStrokes(10, "cut 0 3 5 3");
        wrongStrokes(9, "cut 0 0 1");
        wrongStrokes(11, "cut 0 0 1 1x");
        wrongStrokes(12, "cut 0 0 1 1 1");
        wrongStrokes(11, "cut 0 0 1 1\t");
        wrongStrokes(12, "cut 0 0 1 1;dark 0 0 1 1");
        wrongStrokes(15, "cut 0 0 1 1;cut");
        String twenty = "flip;".repeat(20);
        rightStrokes(ALL, twenty.substring(0, 99));
        wrongStrokes(100, twenty);
        wrongStrokes(102, twenty + "  ");
        wrongStrokes(101, twenty + " flip");
        wrongStrokes(99, twenty.substring(0, 99) + "!");
        wrongMarks(0, "cut 0 0 1 1");
        wrongMarks(5, "dark 12 0 1 1");
        wrongMarks(7, "half 0 12 1 1");
        wrongMarks(10, "light 0 0 13 1");
        wrongMarks(11, "any 0 11 1 2");
        wrongMarks(8, "any 0 0 0 1");
        wrongMarks(9, "any 11 0 2 1");
        wrongMarks(11, "any 0 0 1 1?");
        wrongMarks(22, "any 0 0 1 1;any 0 0 1 ;");
        wrongRules(0, "cut 0 0 1 1");
        wrongRules(6, "never 3 0");
        wrongRules(8, "never 2 1");
        wrongRules(5, "with 3 0");
        wrongRules(7, "with 0 3");
        wrongRules(7, "with 2 2");
        wrongRules(8, "apart 2 02");
        wrongRules(6, "near 1");
        wrongRules(9, "near 1 0 2");
        wrongRules(7, "near 1 000");
        wrongRules(200, "with 0 1; ".repeat(20) + "with 0 1");
    }

    private static void dark() {
        LampSheets x = made("", only(7, 2), only());
        due(ALL, x, "dark", 0);
        due(bits(2, 7), x, "dark", 1);
        due(0, x, "dark", 2);
        noSuch(x, "dark", 3);
        noSuch(x, "dark", -1);
    }

    private static void loose() {
        LampSheets x = made("", only(6, 7, 12, 0, 24), only(2, 7, 12, 18), only());
        due(0, x, "loose", 0);
        due(bits(6, 7, 12), x, "loose", 1);
        due(bits(18), x, "loose", 2);
        due(0, x, "loose", 3);
        noSuch(x, "loose", 4);
        noSuch(x, "loose", NONE);
    }

    private static void bridges() {
        LampSheets x = made("", only(12), only(6), only(6, 8, 16, 18), only(7, 11, 13, 17), only(6, 18));
        due(0, x, "bridges", 0);
        due(bits(2, 7), x, "bridges", 1);
        due(bits(1), x, "bridges", 2);
        due(bits(1, 3, 11, 13), x, "bridges", 3);
        due(bits(2, 12), x, "bridges", 4);
        due(bits(1, 19), x, "bridges", 5);
        noSuch(x, "bridges", 6);
        noSuch(x, "bridges", -1);
    }

    private static void slot() {
        LampSheets x = new LampSheets();
        wrongArgument(x, "slot", 0, 0, 0);
        wrongArgument(x, "slot", 4, 0, 0);
        wrongArgument(x, "slot", 1, -13, 0);
        wrongArgument(x, "slot", 1, 13, 0);
        wrongArgument(x, "slot", 1, 0, -13);
        wrongArgument(x, "slot", 1, 0, 13);
        due(0, x, "slot", 1, -12, 12);
        due(1, x, "slot", 3, 12, -12);
        due(2, x, "slot", 2, 0, 0);
        due(3, x, "slot", 2, 0, 0);
        tooMany(x, "slot", 2, 0, 0);
        wrongArgument(x, "slot", 0, 0, 0);
        due(4, x, "count", 1);
    }

    private static void lamp() {
        LampSheets x = new LampSheets();
        due(0, x, "lamp", 1);
        wrongArgument(x, "lamp", 2);
        wrongArgument(x, "lamp", -1);
        due(1, x, "count", 5);
        due(1, x, "lamp", 1);
        due(1, x, "lamp", 0);
        due(0, x, "count", 5);
    }

    private static void hands() {
        LampSheets x = new LampSheets();
        due(2, x, "hands", 1);
        wrongArgument(x, "hands", 0);
        wrongArgument(x, "hands", 3);
        due(1, x, "count", 6);
        due(1, x, "hands", 2);
        due(2, x, "count", 6);
    }

    private static void put() {
        LampSheets x = made("", "");
        x.slot(1, 0, 0);
        x.slot(1, 6, 6);
        due(NONE, x, "put", 0, 0);
        due(NONE, x, "put", 1, 1);
        due(1, x, "put", 1, 0);
        due(NONE, x, "in", 0);
        due(0, x, "in", 1);
        due(1, x, "count", 7);
        due(0, x, "put", 1, 0);
        due(0, x, "in", 1);
        due(0, x, "put", 1, NONE);
        due(NONE, x, "put", 1, NONE);
        due(0, x, "count", 7);
        noSuch(x, "put", 2, 0);
        noSuch(x, "put", -1, 0);
        noSuch(x, "put", 0, 2);
        noSuch(x, "put", 0, -2);
        due(0, x, "count", 7);
    }

    private static void in() {
        LampSheets x = made("", "");
        x.slot(1, 0, 0);
        due(NONE, x, "in", 0);
        x.put(0, 1);
        due(1, x, "in", 0);
        noSuch(x, "in", 1);
        noSuch(x, "in", -1);
    }

    private static void shade() {
        LampSheets x = made(only(0));
        x.slot(3, 2, 1);
        x.put(0, 0);
        due(2, x, "shade", 12 + 2, 0, 0);
        due(2, x, "shade", 36 + 4, 0, 0);
        due(0, x, "shade", 12 + 5, 0, 0);
        due(0, x, "shade", 48 + 2, 0, 0);
        due(2, x, "shade", 12 + 4, 0, 1);
        due(0, x, "shade", 12 + 3, 0, 1);
        due(2, x, "shade", 12, 0, -1);
        x.lamp(1);
        due(1, x, "shade", 24 + 3, 0, 0);
        due(0, x, "shade", 24 + 1, 0, 0);
        due(1, x, "shade", 24 + 2, 0, 0);
        due(1, x, "shade", 24 + 4, 0, 0);
        due(0, x, "shade", 24 + 5, 0, 0);
        noSuch(x, "shade", -1, 0, 0);
        noSuch(x, "shade", 144, 0, 0);
        noSuch(x, "shade", 0, -1, 0);
        noSuch(x, "shade", 0, 3, 0);
        noSuch(x, "shade", 0, 0, -4);
        noSuch(x, "shade", 0, 0, 4);
        LampSheets y = new LampSheets();
        for (int mask = 1; mask <= 2; mask++) {
            y.end(0);
            y.sheet(mask);
        }
        y.slot(2, 0, 0);
        y.slot(2, 0, 0);
        y.lamp(1);
        y.put(0, 0);
        y.put(1, 1);
        due(1, y, "shade", 0, 0, 0);
        due(1, y, "shade", 0, 1, 0);
        due(0, y, "shade", 0, 2, 0);
        y.end(0);
        y.sheet(7);
        y.slot(1, 11, 11);
        y.put(2, 2);
        due(2, y, "shade", 143, 2, 0);
        y.put(2, NONE);
        y.put(1, 2);
        due(2, y, "shade", 0, 0, 0);
        due(1, y, "shade", 0, 1, 0);
        due(2, y, "shade", 13, 2, 0);
    }

    private static void shades() {
        LampSheets x = made("");
        x.slot(3, 0, 0);
        x.slot(3, -3, -3);
        x.slot(2, 1, 1);
        x.lamp(1);
        x.put(0, 0);
        due(100, x, "shades", 2, 0, 0);
        due(44, x, "shades", 1, 0, 0);
        due(0, x, "shades", 0, 0, 0);
        x.put(1, 0);
        due(100, x, "shades", 2, 0, 0);
        due(110, x, "shades", 2, 0, 1);
        due(34, x, "shades", 1, 0, 1);
        x.put(2, 0);
        due(64, x, "shades", 2, 0, 0);
        due(36, x, "shades", 1, 0, 0);
        due(44, x, "shades", 0, 0, 0);
        LampSheets y = made(only(0), only(0));
        y.slot(2, 0, 0);
        y.slot(2, 1, 1);
        y.lamp(1);
        y.put(0, 0);
        y.put(1, 1);
        due(1, y, "shades", 2, 0, 0);
        due(6, y, "shades", 1, 0, 0);
        due(137, y, "shades", 0, 0, 0);
        wrongArgument(x, "shades", 3, 0, 0);
        wrongArgument(x, "shades", -1, 0, 0);
        noSuch(x, "shades", 3, 3, 0);
        noSuch(x, "shades", 0, -1, 0);
        noSuch(x, "shades", 3, 0, 4);
        noSuch(x, "shades", 0, 0, -4);
    }

    private static void told() {
        LampSheets x = new LampSheets();
        scene(x, "dark 0 0 12 12; half 11 11 1 1; any 0 11 1 1; light 11 0 1 1");
        due(2, x, "told", 0, 0);
        due(1, x, "told", 0, 143);
        due(3, x, "told", 0, 132);
        due(0, x, "told", 0, 11);
        noSuch(x, "told", 1, 0);
        noSuch(x, "told", -1, 0);
        noSuch(x, "told", 0, 144);
        noSuch(x, "told", 0, -1);
    }

    private static void wrong() {
        LampSheets x = made(only(0));
        x.slot(2, 0, 0);
        x.put(0, 0);
        scene(x, "dark 1 1 1 1; half 5 5 1 1; dark 11 11 1 1; any 0 0 1 1");
        due(4, x, "wrong", 0, 0, 0, NONE);
        int[] spots = {1, 12, 65, 143, NONE};
        for (int i = 0; i < spots.length; i++) {
            due(spots[i], x, "wrong", 0, 0, 0, i);
        }
        due(NONE, x, "wrong", 0, 0, 0, FAR);
        x.lamp(1);
        due(5, x, "wrong", 0, 0, 0, NONE);
        due(13, x, "wrong", 0, 0, 0, 2);
        wrongArgument(x, "wrong", 0, 0, 0, -2);
        noSuch(x, "wrong", 1, 0, 0, -2);
        noSuch(x, "wrong", 0, 3, 0, -2);
        noSuch(x, "wrong", 0, 0, 4, 0);
        noSuch(x, "wrong", -1, 0, 0, 0);
    }

    private static void best() {
        LampSheets x = made(only(0), only(0), only(1));
        x.slot(1, 0, 0);
        x.slot(1, 1, 0);
        scene(x, "dark 0 0 2 1");
        due(0, x, "best", 0, 0, 0, NONE);
        due(0, x, "best", 0, 0, 0, 0);
        due(1, x, "best", 0, 0, 0, 1);
        scene(x, "dark 1 0 1 1");
        due(0, x, "best", 1, 0, 0, NONE);
        due(NONE, x, "best", 1, 0, 0, 0);
        due(0, x, "best", 1, 0, 0, 1);
        rules(x, "never 0 1");
        due(1, x, "best", 1, 0, 0, 1);
        rules(x, "never 0 1; never 1 1");
        due(2, x, "best", 1, 0, 0, 0);
        due(NONE, x, "best", 1, 0, 0, 1);
        rules(x, "with 0 1; with 0 2");
        due(1, x, "best", 1, 0, 0, NONE);
        due(NONE, x, "best", 1, 0, 0, 0);
        due(0, x, "count", 7);
        noSuch(x, "best", 2, 0, 0, 0);
        noSuch(x, "best", 0, 3, 0, 0);
        noSuch(x, "best", 0, 0, 4, 0);
        noSuch(x, "best", 0, 0, 0, 2);
        noSuch(x, "best", 0, 0, 0, -2);
    }

    private static void rules() {
        LampSheets x = made("", "");
        x.slot(1, 0, 0);
        x.put(0, 1);
        Check.text(x, "never 1 0; with 0 1");
        due(2, x, "rules");
        due(false, x, "end", 1);
        due(2, x, "count", 9);
        due(false, x, "allowed");
        Check.text(x, "never 0 0; with 0 2");
        wrongArgument(x, "rules");
        due(18, x, "fault");
        due(false, x, "end", 1);
        due(2, x, "count", 9);
        due(false, x, "allowed");
        due(0, x, "rules");
        due(true, x, "allowed");
        Check.text(x, "with 0 1;".repeat(20).substring(0, 179));
        due(20, x, "rules");
    }

    private static void allowed(boolean want, String rules, int... setting) {
        LampSheets x = made("", "", "");
        x.slot(1, 0, 0);
        x.slot(2, 0, 0);
        x.slot(2, 0, 0);
        rules(x, rules);
        for (int slot = 0; slot < setting.length; slot++) {
            x.put(slot, setting[slot]);
        }
        due(want, x, "allowed");
    }

    private static void allowed() {
        allowed(true, "never 0 1", 0, 1, NONE);
        allowed(false, "never 0 1", NONE, 0, NONE);
        allowed(true, "with 0 1", NONE, NONE, 2);
        allowed(true, "with 0 1", 1, NONE, 0);
        allowed(false, "with 0 1", 1, NONE, NONE);
        allowed(false, "with 0 1", NONE, 0, NONE);
        allowed(true, "apart 0 1", 0, 2, NONE);
        allowed(true, "apart 0 1", NONE, 1, NONE);
        allowed(false, "apart 0 1", 0, 1, NONE);
        allowed(true, "near 0 1", 1, 0, NONE);
        allowed(false, "near 0 1", 0, 1, NONE);
        allowed(false, "near 0 1", NONE, 0, 1);
        allowed(true, "near 0 1", 0, NONE, NONE);
        allowed(true, "near 0 1", NONE, 1, NONE);
        allowed(false, "apart 0 1; never 2 2", NONE, NONE, 2);
        allowed(true, "", 0, 1, 2);
    }

    private static void step() {
        LampSheets x = made(only(0), only(0), only(0, 1, 2));
        x.slot(1, 0, 0);
        x.slot(1, 3, 0);
        scene(x, "dark 0 0 3 1");
        due(3, x, "step", 0, 0, 0);
        x.put(1, 2);
        due(3, x, "step", 0, 0, 0);
        rules(x, "never 2 0");
        due(10, x, "step", 0, 0, 0);
        rules(x, "never 2 0; with 2 0");
        due(10, x, "step", 0, 0, 0);
        x.put(0, 0);
        due(NONE, x, "step", 0, 0, 0);
        rules(x, "");
        x.put(1, NONE);
        due(3, x, "step", 0, 0, 0);
        scene(x, "");
        due(0, x, "step", 1, 0, 0);
        x.put(0, NONE);
        due(NONE, x, "step", 1, 0, 0);
        due(0, x, "count", 7);
        noSuch(x, "step", 2, 0, 0);
        noSuch(x, "step", 0, 3, 0);
        noSuch(x, "step", 0, 0, -4);
    }

    private static void seats() {
        LampSheets x = made(only(0));
        x.slot(2, 4, 0);
        scene(x, "dark 5 0 2 2");
        due(0, x, "seats", 0, 0);
        x.put(0, 0);
        due(1 << 4, x, "seats", 0, 0);
        scene(x, "any 0 0 12 12; dark 5 0 1 2");
        due(1 << 3 | 1 << 4, x, "seats", 1, 0);
        scene(x, "any 0 0 12 12");
        due(127, x, "seats", 2, 2);
        noSuch(x, "seats", 3, 0);
        noSuch(x, "seats", 0, 3);
        noSuch(x, "seats", -1, 0);
        noSuch(x, "seats", 0, -1);
    }

    private static void holes() {
        LampSheets x = made("", "cut 0 0 1 1; cut 1 1 1 1; cut 2 1 2 2", only(), "cut 0 0 5 5;paste 2 0 1 5");
        due(0, x, "holes", 0);
        due(2, x, "holes", 1);
        due(1, x, "holes", 2);
        due(2, x, "holes", 3);
        noSuch(x, "holes", 4);
        noSuch(x, "holes", -1);
    }

    private static void lasts() {
        LampSheets x = made("", only(12), only(2, 7, 12), "cut 1 1 3 3", only(4, 9, 8), only());
        due(NONE, x, "lasts", 0);
        due(0, x, "lasts", 1);
        due(1, x, "lasts", 2);
        due(NONE, x, "lasts", 3);
        due(NONE, x, "lasts", 4);
        due(NONE, x, "lasts", 5);
        due(bits(2, 7, 12), x, "dark", 2);
        noSuch(x, "lasts", 6);
        noSuch(x, "lasts", -1);
        LampSheets y = made(only(0, 4, 9, 8, 22, 17, 12, 13));
        due(5, y, "lasts", 0);
        LampSheets z = made(only(0, 10, 11, 12));
        due(2, z, "lasts", 0);
    }

    private static void idle() {
        LampSheets x = new LampSheets();
        for (int mask : new int[] {1, 1, 2}) {
            x.end(0);
            x.sheet(mask);
        }
        x.slot(1, 0, 0);
        x.slot(2, 0, 0);
        x.slot(1, 6, 6);
        due(0, x, "idle", 0, 0);
        x.put(0, 0);
        x.put(1, 1);
        x.put(2, 2);
        due(bits(0, 2), x, "idle", 0, 0);
        due(bits(0, 1), x, "idle", 1, 0);
        due(bits(0, 1, 2), x, "idle", 2, 0);
        due(bits(2), x, "idle", 0, 3);
        x.lamp(1);
        due(bits(2), x, "idle", 0, 0);
        noSuch(x, "idle", 3, 0);
        noSuch(x, "idle", -1, 0);
        noSuch(x, "idle", 0, 4);
        noSuch(x, "idle", 0, -4);
    }

    private static void unlike() {
        LampSheets x = made("", only(0));
        x.slot(2, 0, 0);
        x.put(0, 0);
        x.frame();
        x.put(0, 1);
        x.frame();
        x.put(0, NONE);
        x.slot(1, 0, 0);
        x.frame();
        due(96, x, "unlike", 0, 1, 0, 0);
        due(96, x, "unlike", 1, 0, 0, 0);
        due(0, x, "unlike", 1, 1, 0, 0);
        due(4, x, "unlike", 1, 2, 2, 0);
        due(0, x, "unlike", 1, 2, 2, -2);
        x.lamp(1);
        due(100, x, "unlike", 0, 2, 0, 0);
        due(97, x, "unlike", 0, 1, 0, 0);
        noSuch(x, "unlike", 3, 0, 0, 0);
        noSuch(x, "unlike", 0, -1, 0, 0);
        noSuch(x, "unlike", 0, 0, 3, 0);
        noSuch(x, "unlike", 0, 0, 0, 4);
    }

    private static void shaped() {
        LampSheets x = made("", only(0), only(1, 6, 11));
        due(0, x, "shaped", 0, ALL);
        due(1, x, "shaped", 0, 0);
        due(1, x, "shaped", 0, ALL & ~bits(6, 7, 11, 12));
        due(2, x, "shaped", 0, ALL & ~bits(6, 12));
        due(2, x, "shaped", 0, ALL & ~bits(6, 7, 8, 11, 13, 16, 17, 18));
        due(NONE, x, "shaped", 0, ALL & ~bits(0, 12, 24));
        due(1, x, "shaped", 1, bits(4));
        due(2, x, "shaped", 1, bits(24));
        due(2, x, "shaped", 1, bits(20));
        due(2, x, "shaped", 1, bits(12));
        due(1, x, "shaped", 2, bits(3, 8, 13));
        due(1, x, "shaped", 2, bits(9, 8, 7));
        due(2, x, "shaped", 2, bits(23, 18, 13));
        due(2, x, "shaped", 2, bits(15, 16, 17));
        due(2, x, "shaped", 0, ALL & ~bits(20, 24));
        due(2, x, "shaped", 0, ALL & ~bits(4, 24));
        LampSheets odd = made(only(0, 2, 6, 13));
        due(1, odd, "shaped", 0, bits(4, 14, 8, 17));
        due(1, odd, "shaped", 0, bits(4, 2, 8, 11));
        due(2, odd, "shaped", 0, bits(24, 22, 18, 11));
        due(2, odd, "shaped", 0, bits(0, 10, 6, 17));
        due(2, odd, "shaped", 0, bits(24, 14, 18, 7));
        due(NONE, odd, "shaped", 0, bits(20, 10, 16, 7));
        LampSheets y = made(only());
        due(2, y, "shaped", 0, bits(2, 3, 4, 7, 9, 12, 13, 14));
        due(2, y, "shaped", 0, bits(10, 11, 12, 15, 17, 20, 21, 22));
        due(2, y, "shaped", 0, bits(4, 14));
        due(2, y, "shaped", 0, bits(20, 22, 23, 24));
        due(NONE, y, "shaped", 0, bits(0, 2, 4));
        due(0, y, "shaped", 0, 0);
        wrongArgument(x, "shaped", 0, -1);
        wrongArgument(x, "shaped", 0, ALL + 1);
        noSuch(x, "shaped", 3, -1);
        noSuch(x, "shaped", -1, 0);
        due(ALL, x, "dark", 0);
    }

    private static void order() {
        LampSheets x = made("", "");
        x.slot(1, 0, 0);
        x.slot(1, 0, 0);
        due(0, x, "order", NONE);
        due(NONE, x, "order", 0);
        wrongArgument(x, "order", -2);
        x.frame();
        due(0, x, "order", NONE);
        due(0, x, "order", 0);
        due(NONE, x, "order", 1);
        x.put(0, 0);
        x.put(1, 1);
        x.frame();
        x.put(1, NONE);
        x.frame();
        due(4, x, "order", NONE);
        int[] want = {0, 2, 1, NONE};
        for (int k = 0; k < want.length; k++) {
            due(want[k], x, "order", k);
        }
        for (int n = 4; n <= 8; n++) {
            x.frame();
        }
        due(4, x, "order", NONE);
        int[] tied = {0, 2, 3, 4, 5, 6, 7, 1, NONE};
        for (int k = 0; k < tied.length; k++) {
            due(tied[k], x, "order", k);
        }
        due(NONE, x, "order", FAR);
        x.frame();
        due(-3, x, "order", NONE);
        due(-3, x, "order", 0);
        due(-3, x, "order", FAR);
        wrongArgument(x, "order", -2);
        wrongArgument(x, "order", LOW);
    }

    private static void together() {
        LampSheets x = made(only(0), only(0, 1));
        x.slot(1, 0, 0);
        x.slot(1, 5, 5);
        due(0, x, "together", NONE);
        due(NONE, x, "together", 0);
        scene(x, "dark 0 0 1 1");
        scene(x, "dark 0 0 3 1");
        x.seen(0, 0, 0);
        due(0, x, "together", NONE);
        due(0, x, "together", 0);
        x.seen(1, 1, 2);
        due(2, x, "together", NONE);
        due(0, x, "together", 0);
        due(NONE, x, "together", 1);
        rules(x, "never 0 0");
        due(1, x, "together", 0);
        rules(x, "never 0 0; never 1 0");
        due(4, x, "together", NONE);
        due(NONE, x, "together", 0);
        noSuch(x, "together", 2);
        noSuch(x, "together", -2);
    }

    private static void bound() {
        LampSheets x = made(only(0), only(0, 1));
        x.slot(1, 0, 0);
        scene(x, "dark 0 0 1 1; half 5 5 2 1; dark 11 11 1 1");
        due(3, x, "bound", 0, 0, 0);
        rules(x, "never 0 0; never 1 0");
        due(4, x, "bound", 0, 0, 0);
        rules(x, "");
        scene(x, "");
        due(0, x, "bound", 1, 0, 0);
        noSuch(x, "bound", 2, 0, 0);
        noSuch(x, "bound", 0, 3, 0);
        noSuch(x, "bound", 0, 0, 4);
    }

    private static void helps() {
        LampSheets x = made(only(0), only(0, 1));
        x.slot(1, 0, 0);
        x.slot(1, 0, 0);
        scene(x, "dark 0 0 1 1");
        x.put(0, 0);
        due(1, x, "helps", 0, 0, 0, 0);
        x.put(1, 1);
        due(0, x, "helps", 0, 0, 0, 0);
        due(-1, x, "helps", 1, 0, 0, 0);
        due(1, x, "in", 1);
        x.put(0, NONE);
        wrongState(x, "helps", 0, 0, 0, 0);
        noSuch(x, "helps", 2, 0, 0, 0);
        noSuch(x, "helps", 0, 1, 0, 0);
        noSuch(x, "helps", 0, 0, 3, 0);
        noSuch(x, "helps", 0, 0, 0, 4);
    }

    private static void anew() {
        LampSheets x = new LampSheets();
        Check.text(x, only(0, 1));
        x.sheet(1);
        Check.text(x, only(2));
        x.sheet(3);
        x.slot(2, 0, 0);
        x.slot(2, 0, 0);
        x.put(0, 0);
        scene(x, "dark 0 0 1 2; dark 4 0 2 2; dark 0 2 2 1; dark 2 2 2 2; half 6 0 1 1");
        due(bits(1, 2, 6), x, "anew", 0, 0, 0, 0);
        x.put(1, 1);
        due(bits(1, 6), x, "anew", 0, 0, 0, 0);
        due(bits(6), x, "anew", 1, 0, 0, 0);
        wrongState(x, "anew", 0, 0, 1, 0);
        due(bits(6), x, "anew", 1, 0, 1, 0);
        x.lamp(1);
        wrongState(x, "anew", 0, 0, 0, 0);
        x.lamp(0);
        x.put(1, NONE);
        wrongState(x, "anew", 1, 0, 0, 0);
        noSuch(x, "anew", 2, 0, 0, 0);
        noSuch(x, "anew", 0, 1, 0, 0);
        noSuch(x, "anew", 0, 0, 3, 0);
        noSuch(x, "anew", 0, 0, 0, -4);
        due(bits(0, 1), x, "dark", 0);
    }

    private static void frame() {
        LampSheets x = made("");
        x.slot(1, 0, 0);
        for (int n = 0; n < 12; n++) {
            x.put(0, n % 2 == 0 ? 0 : NONE);
            due(n, x, "frame");
        }
        tooMany(x, "frame");
        due(12, x, "count", 3);
        due(NONE, x, "in", 0);
        due(2, x, "take", 0);
        due(0, x, "in", 0);
    }

    private static void moves() {
        for (int hands = 1; hands <= 2; hands++) {
            LampSheets x = made("", "", "", "", "");
            x.hands(hands);
            x.frame();
            for (int slot = 0; slot < 4; slot++) {
                x.slot(1, 0, 0);
                x.put(slot, slot);
            }
            x.frame();
            for (int slot = 0; slot < 4; slot++) {
                x.put(slot, NONE);
            }
            for (int slot = 0; slot < 4; slot++) {
                x.put(slot, (slot + 1) % 4);
            }
            x.frame();
            x.put(0, 4);
            x.frame();
            due(0, x, "moves", 1, 1);
            due(8, x, "moves", 0, 1);
            due(8, x, "moves", 1, 0);
            due(8, x, "moves", 1, 2);
            due(4, x, "moves", 2, 3);
            due(10, x, "moves", 1, 3);
            noSuch(x, "moves", 4, 0);
            noSuch(x, "moves", 0, 4);
            noSuch(x, "moves", -1, 0);
        }
    }

    private static void row() {
        LampSheets x = made("", "");
        x.slot(1, 0, 0);
        x.slot(1, 0, 0);
        due(0, x, "row");
        x.put(0, 0);
        x.frame();
        due(0, x, "row");
        x.put(1, 1);
        x.frame();
        due(2, x, "row");
        x.put(1, 0);
        x.frame();
        due(6, x, "row");
        x.frame();
        due(6, x, "row");
    }

    private static void take() {
        LampSheets x = made("", "");
        x.slot(1, 0, 0);
        x.put(0, 0);
        x.frame();
        x.slot(1, 0, 0);
        x.put(1, 1);
        x.frame();
        x.put(0, 1);
        due(4, x, "take", 1);
        due(0, x, "in", 0);
        due(1, x, "in", 1);
        due(2, x, "take", 0);
        due(NONE, x, "in", 1);
        due(0, x, "take", 0);
        noSuch(x, "take", 2);
        noSuch(x, "take", -1);
        due(2, x, "count", 3);
    }

    private static void play() {
        LampSheets x = made("cut 1 1 1 1", "", "cut 0 0 1 1");
        x.slot(1, 0, 0);
        x.slot(1, 0, 0);
        due(0, x, "play", 50);
        x.put(0, 0);
        x.put(1, 1);
        x.frame();
        due(0, x, "play", 9);
        due(1, x, "play", 1);
        due(ALL & ~bits(6, 1), x, "dark", 0);
        due(ALL, x, "dark", 1);
        x.frame();
        due(1, x, "play", 5);
        due(ALL & ~bits(6, 1, 0), x, "dark", 0);
        due(20, x, "uses", 0);
        due(10, x, "play", 50);
        due(0, x, "uses", 2);
        wrongArgument(x, "play", 0);
        wrongArgument(x, "play", 51);
        wrongArgument(x, "play", -1);
        due(120, x, "uses", 0);
    }

    private static void uses() {
        LampSheets x = made("cut 0 0 1 1", "");
        x.slot(1, 0, 0);
        x.put(0, 0);
        due(0, x, "uses", 0);
        x.frame();
        x.frame();
        x.play(3);
        due(6, x, "uses", 0);
        due(0, x, "uses", 1);
        x.paste(0);
        due(6, x, "uses", 0);
        noSuch(x, "uses", 2);
        noSuch(x, "uses", -1);
    }

    private static void paste() {
        LampSheets x = made("cut 0 0 1 1");
        x.slot(1, 0, 0);
        x.put(0, 0);
        x.frame();
        due(0, x, "paste", 0);
        due(3, x, "play", 30);
        due(ALL & ~bits(0, 1, 2, 3), x, "dark", 0);
        due(3, x, "paste", 0);
        due(ALL & ~bits(0), x, "dark", 0);
        due(1, x, "play", 10);
        Check.text(x, "cut 4 4 1 1");
        due(1, x, "strokes", 0);
        due(1, x, "play", 10);
        due(1, x, "paste", 0);
        due(ALL & ~bits(0, 1, 24), x, "dark", 0);
        due(50, x, "uses", 0);
        x.play(10);
        Check.text(x, "cut 1 1 3 3; paste 2 2 1 1");
        wrongState(x, "strokes", 0);
        due(1, x, "paste", 0);
        due(ALL & ~bits(0, 1, 24), x, "dark", 0);
        noSuch(x, "paste", 1);
        noSuch(x, "paste", -1);
    }

    private static void seen() {
        LampSheets x = new LampSheets();
        scene(x, "");
        noSuch(x, "seen", 1, 0, 0);
        noSuch(x, "seen", 0, 3, 0);
        noSuch(x, "seen", 0, 0, 4);
        noSuch(x, "seen", 0, 0, -4);
        for (int n = 1; n <= 6; n++) {
            due(n, x, "seen", 0, n % 3, n - 3);
        }
        tooMany(x, "seen", 0, 0, 0);
        noSuch(x, "seen", 0, 0, 4);
        due(6, x, "count", 4);
    }

    private static void guess() {
        LampSheets x = made(only(0), only(0), only(1));
        x.slot(1, 0, 0);
        x.slot(2, 5, 5);
        due(1 + 6 + 6, x, "guess", NONE);
        due(NONE, x, "guess", 0);
        scene(x, "dark 0 0 1 1; any 4 4 8 8");
        x.seen(0, 0, 0);
        due(6, x, "guess", NONE);
        due(0, x, "guess", 0);
        due(NONE, x, "guess", 1);
        scene(x, "dark 0 0 1 1; dark 4 5 2 2");
        x.seen(1, 1, -1);
        due(2, x, "guess", NONE);
        due(0, x, "guess", 0);
        due(1, x, "guess", 1);
        rules(x, "apart 0 1");
        due(0, x, "guess", NONE);
        due(-2, x, "guess", 0);
        rules(x, "never 0 0");
        due(1, x, "guess", NONE);
        due(1, x, "guess", 0);
        due(0, x, "guess", 1);
        noSuch(x, "guess", 2);
        noSuch(x, "guess", -2);
    }

    private static void image() {
        LampSheets x = made("cut 0 0 1 1");
        x.slot(1, 0, 0);
        x.put(0, 0);
        x.image();
        x.put(0, NONE);
        x.back();
        due(0, x, "in", 0);
        x.put(0, NONE);
        x.image();
        x.put(0, 0);
        x.back();
        due(NONE, x, "in", 0);
    }

    private static void back() {
        LampSheets x = made("cut 0 0 1 1");
        due(false, x, "back");
        x.slot(2, 1, 1);
        x.put(0, 0);
        scene(x, "dark 0 0 1 1");
        rules(x, "never 0 0");
        x.seen(0, 0, 0);
        x.frame();
        x.play(10);
        x.feed(0x74757269, 0, 0, 0, 0);
        x.image();
        x.lamp(1);
        x.hands(1);
        x.play(10);
        x.slot(1, 0, 0);
        x.put(0, NONE);
        x.frame();
        x.seen(0, 0, 0);
        scene(x, "");
        rules(x, "");
        Check.text(x, "cut 4 4 1 1");
        x.strokes(0);
        Check.text(x, "cut 3 3 1 1");
        x.sheet(1);
        Check.text(x, "turn!");
        wrongArgument(x, "sheet", 1);
        x.feed(0, 0, 0, 0, 0);
        for (int times = 0; times < 2; times++) {
            due(true, x, "back");
            int[] counts = {1, 1, 1, 1, 1, 0, 2, 1, 23, 1, NONE};
            for (int what = 0; what < counts.length; what++) {
                due(counts[what], x, "count", what);
            }
            due(10, x, "uses", 0);
            due(0, x, "in", 0);
            due(false, x, "allowed");
            due(4, x, "fault");
            due(true, x, "end", 20);
            due(1, x, "paste", 0);
            due(ALL & ~bits(0), x, "dark", 0);
            x.put(0, NONE);
        }
        due(0, x, "row");
        due(1, x, "frame");
        due(1, x, "slot", 1, 0, 0);
        due(NONE, x, "in", 1);
    }

    private static void backToMany() {
        LampSheets x = made(only(0), only(0), only(0), only(0), only(0), only(0));
        for (int slot = 0; slot < 4; slot++) {
            x.slot(1, slot, slot);
        }
        for (int n = 0; n < 12; n++) {
            x.put(n % 4, n % 6);
            x.frame();
        }
        for (int n = 0; n < 6; n++) {
            scene(x, "dark " + n + " 0 1 1");
            x.seen(n, n % 3, n - 2);
        }
        rules(x, "apart 0 1;".repeat(19) + "never 5 3");
        x.image();
        int row = x.row();
        int together = x.together(NONE);
        x.put(0, NONE);
        rules(x, "");
        x.back();
        due(row, x, "row");
        due(together, x, "together", NONE);
        due(2, x, "told", 5, 5);
        x.take(0);
        x.put(3, 5);
        due(false, x, "allowed");
        for (int what = 0; what <= 4; what++) {
            due(new int[] {6, 4, 6, 12, 6}[what], x, "count", what);
        }
    }

    private static void count() {
        LampSheets x = made("", only(0, 1));
        x.slot(1, 0, 0);
        x.slot(1, 0, 0);
        x.slot(1, 0, 0);
        x.put(2, 1);
        scene(x, "");
        x.frame();
        x.frame();
        x.seen(0, 0, 0);
        x.lamp(1);
        x.hands(1);
        rules(x, "with 0 1");
        int[] counts = {2, 3, 1, 2, 1, 1, 1, 1, 27, 1};
        for (int what = 0; what < counts.length; what++) {
            due(counts[what], x, "count", what);
        }
        due(NONE, x, "count", 10);
        due(NONE, x, "count", -1);
        due(NONE, x, "count", FAR);
        due(NONE, x, "count", LOW);
    }
}
