import java.util.ArrayList;
import java.util.Arrays;
import java.util.List;
import java.util.function.Supplier;

/** What the cases at the document's bounds share. */
final class Edge {
    static final int NONE = LampSheets.NONE;
    static final int ALL = (1 << 25) - 1;
    static final int FAR = Integer.MAX_VALUE;
    static final int LOW = Integer.MIN_VALUE;

    private static final List<String> TEXT_CALLS = List.of("sheet", "strokes", "scene", "rules");
    private static final List<String> THROWN =
            List.of(Check.WRONG_ARGUMENT, Check.NO_SUCH, Check.TOO_MANY, Check.WRONG_STATE);

    private Edge() {
    }

    static void due(Object want, LampSheets x, String name, Object... args) {
        Check.due(want, x, name, args);
    }

    static LampSheets made(String... sheets) {
        LampSheets x = new LampSheets();
        for (String text : sheets) {
            sheet(x, 7, text);
        }
        return x;
    }

    static void sheet(LampSheets x, int mask, String text) {
        Check.text(x, text);
        x.sheet(mask);
    }

    static void scene(LampSheets x, String text) {
        Check.text(x, text);
        x.scene();
    }

    static void rules(LampSheets x, String text) {
        Check.text(x, text);
        x.rules();
    }

    static LampSheets withText(LampSheets x, String text) {
        Check.text(x, text);
        return x;
    }

    static int bits(int... cells) {
        int bits = 0;
        for (int cell : cells) {
            bits |= 1 << cell;
        }
        return bits;
    }

    /** A sheet's text by which these cells alone are dark. */
    static String only(int... cells) {
        StringBuilder text = new StringBuilder("cut 0 0 5 5");
        for (int cell : cells) {
            text.append(";paste ").append(cell % 5).append(' ').append(cell / 5).append(" 1 1");
        }
        return text.toString();
    }

    static String times(int n, String command) {
        return String.join(";", java.util.Collections.nCopies(n, command));
    }

    /** Three of what may be three: 3 sheets, each in one of 3 slots, 3 scenes, 3 frames; an image; a text on the tape. */
    static LampSheets house() {
        LampSheets x = new LampSheets();
        sheet(x, 7, "cut 0 0 1 1");
        sheet(x, 3, "cut 1 1 3 3");
        sheet(x, 1, only(2, 7, 12));
        x.slot(1, 0, 0);
        x.slot(2, 1, 1);
        x.slot(3, -2, 0);
        scene(x, "dark 0 0 5 5; half 6 6 2 2; any 8 8 4 4");
        scene(x, "dark 2 2 4 4; light 3 3 1 1");
        scene(x, "half 0 0 12 1");
        rules(x, "never 2 0; near 1 0");
        x.frame();
        x.put(0, 0);
        x.frame();
        x.put(1, 1);
        x.frame();
        x.put(2, 2);
        x.seen(0, 0, 0);
        x.seen(1, 1, -1);
        x.play(7);
        x.image();
        Check.text(x, "cut 4 4 1 1");
        x.strokes(1);
        x.play(3);
        x.hands(1);
        Check.text(x, "with 0 1;!");
        Check.answer(x, "rules");
        Check.text(x, "cut 4 0 1 1");
        return x;
    }

    /** As much of everything as there may be, and an image of it. */
    static LampSheets fullHouse() {
        LampSheets x = new LampSheets();
        for (int n = 0; n < 6; n++) {
            sheet(x, 1 + n, "cut " + n % 5 + " 1 1 1");
        }
        for (int n = 0; n < 4; n++) {
            x.slot(1 + n % 3, n, 2 * n);
        }
        for (int n = 0; n < 6; n++) {
            scene(x, "dark " + n + " 0 3 9");
            x.seen(n, n % 3, n - 3);
        }
        rules(x, times(19, "apart 4 5") + ";never 5 3");
        for (int n = 0; n < 12; n++) {
            x.put(n % 4, (n + n / 6) % 6);
            x.frame();
        }
        x.image();
        return x;
    }

    /** A call that throws, or answers that nothing happens: all else is as it is beside a twin without that call. */
    static void refused(Object want, Supplier<LampSheets> house, String name, Object... args) {
        LampSheets asked = house.get();
        LampSheets twin = house.get();
        Check.due(want, asked, name, args);
        boolean usesTape = TEXT_CALLS.contains(name);
        if (usesTape) {
            Check.due(false, asked, "end", 1);
            twin.end(0);
        }
        List<String> got = everything(asked, !usesTape);
        List<String> kept = everything(twin, !usesTape);
        for (int i = 0; i < kept.size(); i++) {
            if (!got.get(i).equals(kept.get(i))) {
                Check.fail(name + Arrays.toString(args) + " was refused, but then " + got.get(i) + ", due is " + kept.get(i));
                return;
            }
        }
    }

    /** Whatever it answers, it does not throw. */
    static void answers(LampSheets x, String name, Object... args) {
        String got = Check.answer(x, name, args);
        if (THROWN.contains(got)) {
            Check.fail(name + Arrays.toString(args) + " threw " + got);
        }
    }

    /** The last index on each side is one; the next, and the farthest, are none, and then nothing happens. */
    static void index(String name, int at, int least, int most, Object... args) {
        for (int n : new int[] {least, most}) {
            Object[] there = args.clone();
            there[at] = n;
            answers(house(), name, there);
        }
        for (int n : new int[] {least - 1, most + 1, LOW, FAR}) {
            Object[] beyond = args.clone();
            beyond[at] = n;
            refused(Check.NO_SUCH, Edge::house, name, beyond);
        }
    }

    /** The numbers are taken; those beside them, and the farthest, are wrong, and then nothing happens. */
    static void argument(String name, int at, int least, int most, Object... args) {
        for (int n : new int[] {least, most}) {
            Object[] there = args.clone();
            there[at] = n;
            answers(house(), name, there);
        }
        wrongBelow(name, at, least, args);
        for (int n : new int[] {most + 1, FAR}) {
            Object[] beyond = args.clone();
            beyond[at] = n;
            refused(Check.WRONG_ARGUMENT, Edge::house, name, beyond);
        }
    }

    static void wrongBelow(String name, int at, int least, Object... args) {
        for (int n : new int[] {least - 1, LOW}) {
            Object[] beyond = args.clone();
            beyond[at] = n;
            refused(Check.WRONG_ARGUMENT, Edge::house, name, beyond);
        }
    }

    private static void ask(List<String> answers, LampSheets x, String name, Object... args) {
        answers.add(name + Arrays.toString(args) + " answered " + Check.answer(x, name, args));
    }

    /** All that can be asked within an object's 512 calls; it spends the object. */
    private static List<String> everything(LampSheets x, boolean withFault) {
        List<String> answers = new ArrayList<>();
        if (withFault) {
            ask(answers, x, "fault");
        }
        int[] counts = new int[5];
        for (int what = 0; what < counts.length; what++) {
            counts[what] = x.count(what);
        }
        askState(answers, x, counts);
        askShadows(answers, x, counts[2]);
        askSearches(answers, x, counts);
        if (counts[0] > 0) {
            askTape(answers, x);
        }
        for (int sheet = 0; sheet < counts[0]; sheet++) {
            ask(answers, x, "paste", sheet);
            ask(answers, x, "dark", sheet);
        }
        ask(answers, x, "back");
        askState(answers, x, counts);
        return answers;
    }

    private static void askState(List<String> answers, LampSheets x, int[] counts) {
        for (int what = 0; what <= 9; what++) {
            ask(answers, x, "count", what);
        }
        for (int slot = 0; slot < counts[1]; slot++) {
            ask(answers, x, "in", slot);
        }
        for (int sheet = 0; sheet < counts[0]; sheet++) {
            ask(answers, x, "dark", sheet);
            ask(answers, x, "uses", sheet);
        }
        for (int frame = 1; frame < counts[3]; frame++) {
            ask(answers, x, "moves", frame - 1, frame);
            ask(answers, x, "unlike", 0, frame, 0, 0);
        }
        ask(answers, x, "allowed");
        ask(answers, x, "row");
    }

    private static void askShadows(List<String> answers, LampSheets x, int scenes) {
        for (int light = 0; light < 3; light++) {
            for (int seat = -3; seat <= 3; seat += 3) {
                ask(answers, x, "shades", 1, light, seat);
                ask(answers, x, "shades", 2, light, seat);
            }
        }
        for (int scene = 0; scene < scenes; scene++) {
            for (int spot = 0; spot < 144; spot += 13) {
                ask(answers, x, "told", scene, spot);
            }
            ask(answers, x, "wrong", scene, 0, 0, NONE);
        }
    }

    private static void askSearches(List<String> answers, LampSheets x, int[] counts) {
        for (int slot = NONE; slot < counts[1]; slot++) {
            ask(answers, x, "best", 0, 0, 0, slot);
            ask(answers, x, "together", slot);
            ask(answers, x, "guess", slot);
        }
        for (int k = NONE; k <= counts[3]; k++) {
            ask(answers, x, "order", k);
        }
    }

    /** How long the tape is, and what strokes it holds. */
    private static void askTape(List<String> answers, LampSheets x) {
        int length = x.feed(0, 0, 0, 0, 0);
        answers.add("feed answered " + length);
        x.end(length - 20);
        ask(answers, x, "strokes", 0);
        ask(answers, x, "fault");
        ask(answers, x, "dark", 0);
    }
}
