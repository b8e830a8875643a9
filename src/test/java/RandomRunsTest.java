import java.lang.reflect.Method;
import java.nio.charset.StandardCharsets;
import java.util.Arrays;
import java.util.Random;

/** Runs of calls by chance, each answer compared with that of PlainTheatre. The seeds are always the same. */
public final class RandomRunsTest {
    private static final String[] TEXT_CALLS = {"sheet", "strokes", "scene", "rules"};
    private static final String[] CALLS = {"dark", "loose", "bridges", "lamp", "hands", "put", "put", "put", "put",
        "in", "shade", "shades", "told", "wrong", "wrong", "best", "best", "allowed", "allowed", "step", "seats",
        "holes", "lasts", "idle", "idle", "unlike", "shaped", "order", "together", "bound", "helps", "anew", "anew",
        "frame", "frame", "moves", "row", "take", "play", "play", "uses", "paste", "seen", "guess", "image", "back",
        "count", "count", "fault", "end", "feed"};

    private final Random random;
    private final LampSheets x = new LampSheets();
    private final PlainTheatre plain = new PlainTheatre();
    private final StringBuilder log = new StringBuilder();
    private boolean failed = false;

    private RandomRunsTest(long seed) {
        random = new Random(seed);
    }

    public static void main(String[] args) {
        int runs = args.length > 0 ? Integer.parseInt(args[0]) : 150;
        long first = args.length > 1 ? Long.parseLong(args[1]) : 1;
        for (long seed = first; seed < first + runs; seed++) {
            new RandomRunsTest(seed).run(seed);
        }
        Check.end();
    }

    private int below(int n) {
        return random.nextInt(n);
    }

    private String call(String name, Object... args) {
        Method mine = Check.method(LampSheets.class, name);
        Method theirs = Check.method(PlainTheatre.class, name);
        String got = Check.answer(x, mine, args);
        String want = Check.answer(plain, theirs, args);
        log.append(name).append(Arrays.toString(args)).append(" -> ").append(got).append('\n');
        if (!got.equals(want) && !failed) {
            failed = true;
            Check.fail(log + "due is " + want);
        }
        return got;
    }

    private void text(String text) {
        byte[] bytes = text.getBytes(StandardCharsets.ISO_8859_1);
        call("end", 0);
        for (int at = 0; at < bytes.length && at < 400; at += 20) {
            call("feed", Check.word(bytes, at), Check.word(bytes, at + 4), Check.word(bytes, at + 8),
                    Check.word(bytes, at + 12), Check.word(bytes, at + 16));
        }
        call("end", bytes.length);
        log.append("text '").append(text).append("'\n");
    }

    private void run(long seed) {
        log.append("seed ").append(seed).append('\n');
        int sheets = 1 + below(6);
        int slots = 1 + below(4);
        if (below(2) == 0) {
            furnish(sheets, slots);
        }
        for (int i = 0; i < 400 - below(300) && !failed; i++) {
            if (Integer.parseInt(call("count", 0)) < sheets && below(3) == 0) {
                makeSheet();
            } else if (Integer.parseInt(call("count", 1)) < slots && below(3) == 0) {
                call("slot", 1 + below(3), below(16) - 6, below(16) - 6);
            } else if (below(6) == 0) {
                String name = TEXT_CALLS[below(TEXT_CALLS.length)];
                if (!name.equals("sheet") || below(10) == 0) {
                    textCall(name);
                }
            } else {
                someCall(CALLS[below(CALLS.length)]);
            }
        }
    }

    /** Begins with much that is there already, so that the searches have something to do. */
    private void furnish(int sheets, int slots) {
        for (int i = 0; i < sheets; i++) {
            makeSheet();
        }
        for (int i = 0; i < slots; i++) {
            call("slot", 1 + below(3), below(8) - 3, below(8) - 3);
        }
        call("lamp", below(2));
        for (int i = 0; i < 3; i++) {
            textCall("scene");
        }
        for (int i = 0; i < 10; i++) {
            call("put", near(slots), below(sheets + 1) - 1);
            if (below(2) == 0) {
                call("frame");
            }
        }
    }

    private void makeSheet() {
        text(below(4) == 0 ? looseText() : strokesText());
        call("sheet", below(12) == 0 ? below(12) - 2 : 1 + below(7));
        call("fault");
    }

    private String looseText() {
        StringBuilder text = new StringBuilder("cut 0 0 5 5");
        for (int i = 0; i < 1 + below(8); i++) {
            text.append(";paste ").append(1 + below(3)).append(' ').append(1 + below(3)).append(" 1 1");
        }
        return text.toString();
    }

    private void textCall(String name) {
        String text = name.equals("scene") ? marksText() : name.equals("rules") ? rulesText() : strokesText();
        text(below(5) == 0 ? spoiled(text) : text);
        if (name.equals("sheet")) {
            call(name, below(9));
        } else if (name.equals("strokes")) {
            call(name, below(7) - below(2));
        } else {
            call(name);
        }
        call("fault");
    }

    private String spoiled(String text) {
        StringBuilder b = new StringBuilder(text);
        String signs = " ;0123456789acdeflprtuA-\n\u00e9";
        for (int i = 0; i <= below(2); i++) {
            int at = below(b.length() + 1);
            int way = below(3);
            if (way == 0 || b.length() == 0) {
                b.insert(Math.min(at, b.length()), signs.charAt(below(signs.length())));
            } else if (way == 1) {
                b.deleteCharAt(Math.min(at, b.length() - 1));
            } else {
                b.setLength(at);
            }
        }
        return b.toString();
    }

    private String joint() {
        return " ".repeat(below(2)) + ";" + " ".repeat(below(2));
    }

    private int commands() {
        return below(30) == 0 ? 19 + below(3) : below(5);
    }

    private String number(int n) {
        return n < 10 && below(8) == 0 ? "0" + n : String.valueOf(n);
    }

    private String box(int side) {
        int x = below(side);
        int y = below(side);
        int w = 1 + below(side - x);
        int h = 1 + below(side - y);
        if (below(40) == 0) {
            w += below(side);
            h += below(3);
        }
        return " " + number(x) + " " + number(y) + " " + number(w) + " " + number(h);
    }

    private String strokesText() {
        StringBuilder text = new StringBuilder(" ".repeat(below(2)));
        int n = commands();
        for (int i = 0; i < n; i++) {
            text.append(i == 0 ? "" : joint());
            int way = below(8);
            text.append(way == 0 ? "turn" : way == 1 ? "flip" : (way < 4 ? "paste" : "cut") + box(5));
        }
        return text.toString();
    }

    private String marksText() {
        StringBuilder text = new StringBuilder();
        int n = commands();
        for (int i = 0; i < n; i++) {
            text.append(i == 0 ? "" : joint());
            text.append(new String[] {"dark", "dark", "half", "light", "any"}[below(5)]).append(box(12));
        }
        return text.toString();
    }

    private String rulesText() {
        StringBuilder text = new StringBuilder();
        int n = commands();
        for (int i = 0; i < n; i++) {
            text.append(i == 0 ? "" : joint());
            int a = below(4);
            String word = new String[] {"never", "with", "apart", "near"}[below(4)];
            int b = word.equals("never") ? below(3) : below(12) == 0 ? a : (a + 1 + below(3)) % 4;
            text.append(word).append(' ').append(number(a)).append(' ').append(number(b));
        }
        return text.toString();
    }

    /** A number that is mostly from 0 to n - 1, at times one beside, at times far off. */
    private int near(int n) {
        if (below(60) == 0) {
            return new int[] {Integer.MIN_VALUE, Integer.MAX_VALUE, -2, -3, 100, 1 << 25}[below(6)];
        }
        return below(15) == 0 ? below(n + 2) - 1 : below(n);
    }

    private int now(int what) {
        return Math.max(1, x.count(what));
    }

    private int aSeat() {
        return near(7) - 3;
    }

    private int slotOrNone() {
        return near(now(1) + 1) - 1;
    }

    private void someCall(String name) {
        switch (name) {
            case "dark", "loose", "bridges", "holes", "lasts", "uses", "paste" -> call(name, near(now(0)));
            case "lamp" -> call(name, near(2));
            case "hands" -> call(name, 1 + near(2));
            case "put" -> call(name, near(now(1)), near(now(0) + 1) - 1);
            case "in" -> call(name, near(now(1)));
            case "shade" -> call(name, near(144), near(3), aSeat());
            case "shades" -> call(name, near(3), near(3), aSeat());
            case "told" -> call(name, near(now(2)), near(144));
            case "wrong" -> call(name, near(now(2)), near(3), aSeat(), near(40) - 1);
            case "best" -> call(name, near(now(2)), near(3), aSeat(), slotOrNone());
            case "step", "bound", "seen" -> call(name, near(now(2)), near(3), aSeat());
            case "seats" -> call(name, near(now(2)), near(3));
            case "idle" -> call(name, near(3), aSeat());
            case "unlike" -> call(name, near(now(3)), near(now(3)), near(3), aSeat());
            case "shaped" -> shaped();
            case "order" -> call(name, near(10) - 1);
            case "together", "guess" -> call(name, slotOrNone());
            case "helps", "anew" -> call(name, near(now(0)), near(now(2)), near(3), aSeat());
            case "moves" -> call(name, near(now(3)), near(now(3)));
            case "take" -> call(name, near(now(3)));
            case "play" -> call(name, near(52));
            case "count" -> call(name, near(10));
            case "end" -> call(name, near(30));
            case "feed" -> call(name, random.nextInt(), 0, 0, 0, random.nextInt());
            case "back" -> {
                if (below(4) == 0) {
                    call(name);
                }
            }
            default -> call(name);
        }
    }

    /** Told cells that one or two changes reach are asked more often than chance would. */
    private void shaped() {
        int sheet = near(now(0));
        int cells = sheet >= 0 && sheet < x.count(0) ? x.dark(sheet) : 0;
        for (int i = 0; i < below(3); i++) {
            int line = ((1 << 1 + below(3)) - 1) << below(3);
            int box = 0;
            int top = below(5);
            for (int y = top; y < 5 && y <= top + below(3); y++) {
                box |= line << 5 * y;
            }
            cells = below(2) == 0 ? cells | box : cells & ~box;
        }
        call("shaped", sheet, below(20) == 0 ? random.nextInt() : cells & 0x1FFFFFF);
    }
}
