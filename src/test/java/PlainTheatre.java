import java.util.ArrayDeque;
import java.util.ArrayList;
import java.util.Arrays;
import java.util.HashMap;
import java.util.HashSet;
import java.util.List;
import java.util.Map;
import java.util.Set;

/** The document once more, word by word and as slow as it likes, to compare the class with. */
final class PlainTheatre {
    private static final int NONE = -1;

    private static final class Sheet {
        boolean[][] dark = new boolean[5][5];
        boolean[][] told;
        int mask;
        int uses;
    }

    private static final class Slot {
        int k;
        int x;
        int y;
    }

    private static final class Token {
        int begin;
        char kind;
        String text;
    }

    private static final class World {
        List<Sheet> sheets = new ArrayList<>();
        List<Slot> slots = new ArrayList<>();
        List<int[]> scenes = new ArrayList<>();
        List<List<Integer>> frames = new ArrayList<>();
        List<int[]> seen = new ArrayList<>();
        List<Object[]> rules = new ArrayList<>();
        List<Integer> setting = new ArrayList<>();
        int width = 0;
        int hands = 2;

        World copy() {
            World w = new World();
            for (Sheet s : sheets) {
                Sheet t = new Sheet();
                t.dark = grid(s.dark);
                t.told = grid(s.told);
                t.mask = s.mask;
                t.uses = s.uses;
                w.sheets.add(t);
            }
            w.slots.addAll(slots);
            w.scenes.addAll(scenes);
            w.frames.addAll(frames);
            w.seen.addAll(seen);
            w.rules.addAll(rules);
            w.setting.addAll(setting);
            w.width = width;
            w.hands = hands;
            return w;
        }
    }

    private World w = new World();
    private World image = null;
    private final List<Integer> tape = new ArrayList<>();
    private int fault = NONE;
    private static final Map<String, Integer> MOVES = new HashMap<>();

    public int feed(int a, int b, int c, int d, int e) {
        if (tape.size() + 20 > 400) {
            return NONE;
        }
        for (int n : new int[] {a, b, c, d, e}) {
            tape.add(n >>> 24);
            tape.add(n >>> 16 & 255);
            tape.add(n >>> 8 & 255);
            tape.add(n & 255);
        }
        return tape.size();
    }

    public boolean end(int n) {
        if (n < 0 || tape.size() < n) {
            return false;
        }
        tape.subList(n, tape.size()).clear();
        return true;
    }

    private String useTape() {
        StringBuilder text = new StringBuilder();
        for (int b : tape) {
            text.append((char) b);
        }
        tape.clear();
        return text.toString();
    }

    private static List<Token> tokens(String text) {
        List<Token> found = new ArrayList<>();
        int at = 0;
        while (at < text.length()) {
            String rest = text.substring(at);
            if (rest.startsWith(" ")) {
                at++;
                continue;
            }
            Token t = new Token();
            t.begin = at;
            java.util.regex.Matcher words = java.util.regex.Pattern.compile("^[a-z]+").matcher(rest);
            java.util.regex.Matcher numbers = java.util.regex.Pattern.compile("^[0-9]+").matcher(rest);
            if (words.find()) {
                t.kind = 'w';
                t.text = words.group();
            } else if (numbers.find()) {
                t.kind = 'n';
                t.text = numbers.group();
            } else {
                t.kind = rest.charAt(0) == ';' ? ';' : '?';
                t.text = rest.substring(0, 1);
            }
            at += t.text.length();
            found.add(t);
        }
        return found;
    }

    /** The commands, or null with the fault set. */
    private List<Object[]> read(String text, String... words) {
        List<Token> all = tokens(text);
        List<Object[]> found = new ArrayList<>();
        fault = NONE;
        int at = 0;
        while (at < all.size() || !found.isEmpty()) {
            if (at >= all.size()) {
                fault = text.length();
                return null;
            }
            Token word = all.get(at++);
            if (word.kind != 'w' || !Arrays.asList(words).contains(word.text) || found.size() == 20) {
                fault = word.begin;
                return null;
            }
            List<Integer> numbers = new ArrayList<>();
            int wanted = word.text.equals("turn") || word.text.equals("flip") ? 0 : words[0].equals("never") ? 2 : 4;
            while (numbers.size() < wanted) {
                if (at >= all.size()) {
                    fault = text.length();
                    return null;
                }
                Token number = all.get(at++);
                if (number.kind != 'n' || number.text.length() > 2
                        || !fits(word.text, words[0], numbers, Integer.parseInt(number.text))) {
                    fault = number.begin;
                    return null;
                }
                numbers.add(Integer.parseInt(number.text));
            }
            found.add(new Object[] {word.text, numbers});
            if (at == all.size()) {
                return found;
            }
            if (all.get(at).kind != ';') {
                fault = all.get(at).begin;
                return null;
            }
            at++;
        }
        return found;
    }

    private boolean fits(String word, String family, List<Integer> before, int n) {
        int nth = before.size();
        if (family.equals("never")) {
            if (word.equals("never") && nth == 1) {
                return n < w.slots.size();
            }
            return n < w.sheets.size() && (nth == 0 || n != before.get(0));
        }
        int side = family.equals("cut") ? 5 : 12;
        if (nth < 2) {
            return n < side;
        }
        return n >= 1 && n <= side && before.get(nth - 2) + n <= side;
    }

    private static boolean[][] grid(boolean[][] from) {
        boolean[][] to = new boolean[5][];
        for (int y = 0; y < 5; y++) {
            to[y] = from[y].clone();
        }
        return to;
    }

    @SuppressWarnings("unchecked")
    private static boolean[][] stroke(boolean[][] before, Object[] stroke) {
        boolean[][] after = grid(before);
        List<Integer> n = (List<Integer>) stroke[1];
        for (int y = 0; y < 5; y++) {
            for (int x = 0; x < 5; x++) {
                switch ((String) stroke[0]) {
                    case "turn" -> after[y][x] = before[4 - x][y];
                    case "flip" -> after[y][x] = before[y][4 - x];
                    default -> {
                        if (x >= n.get(0) && x < n.get(0) + n.get(2) && y >= n.get(1) && y < n.get(1) + n.get(3)) {
                            after[y][x] = stroke[0].equals("paste");
                        }
                    }
                }
            }
        }
        return after;
    }

    private static boolean[][] allDark() {
        boolean[][] dark = new boolean[5][5];
        for (boolean[] line : dark) {
            Arrays.fill(line, true);
        }
        return dark;
    }

    public int sheet(int mask) {
        String text = useTape();
        fault = NONE;
        if (mask < 1 || mask > 7) {
            throw new IllegalArgumentException();
        }
        List<Object[]> strokes = read(text, "cut", "paste", "turn", "flip");
        if (strokes == null) {
            throw new IllegalArgumentException();
        }
        if (w.sheets.size() == 6) {
            throw new UnsupportedOperationException();
        }
        Sheet s = new Sheet();
        s.mask = mask;
        s.dark = allDark();
        for (Object[] stroke : strokes) {
            s.dark = stroke(s.dark, stroke);
        }
        s.told = s.dark;
        w.sheets.add(s);
        return w.sheets.size() - 1;
    }

    public int strokes(int sheet) {
        String text = useTape();
        needSheet(sheet);
        List<Object[]> strokes = read(text, "cut", "paste", "turn", "flip");
        if (strokes == null) {
            throw new IllegalArgumentException();
        }
        boolean[][] after = w.sheets.get(sheet).dark;
        for (Object[] stroke : strokes) {
            after = stroke(after, stroke);
        }
        if (bits(looseOf(after)) != 0) {
            throw new IllegalStateException();
        }
        int others = Integer.bitCount(bits(after) ^ dark(sheet));
        w.sheets.get(sheet).dark = after;
        w.sheets.get(sheet).told = after;
        return others;
    }

    @SuppressWarnings("unchecked")
    public int scene() {
        List<Object[]> marks = read(useTape(), "dark", "half", "light", "any");
        if (marks == null) {
            throw new IllegalArgumentException();
        }
        if (w.scenes.size() == 6) {
            throw new UnsupportedOperationException();
        }
        int[] scene = new int[144];
        for (Object[] mark : marks) {
            List<Integer> n = (List<Integer>) mark[1];
            for (int y = n.get(1); y < n.get(1) + n.get(3); y++) {
                for (int x = n.get(0); x < n.get(0) + n.get(2); x++) {
                    scene[12 * y + x] = Arrays.asList("light", "half", "dark", "any").indexOf(mark[0]);
                }
            }
        }
        w.scenes.add(scene);
        return w.scenes.size() - 1;
    }

    public int fault() {
        return fault;
    }

    private static int bits(boolean[][] cells) {
        int bits = 0;
        for (int i = 0; i < 25; i++) {
            bits |= cells[i / 5][i % 5] ? 1 << i : 0;
        }
        return bits;
    }

    private static boolean[][] cells(int bits) {
        boolean[][] cells = new boolean[5][5];
        for (int i = 0; i < 25; i++) {
            cells[i / 5][i % 5] = (bits >> i & 1) != 0;
        }
        return cells;
    }

    /** Reaches over cells of the same kind, from the start on. */
    private static void reach(boolean[][] cells, boolean kind, int x, int y, boolean[][] reached) {
        if (x < 0 || x > 4 || y < 0 || y > 4 || cells[y][x] != kind || reached[y][x]) {
            return;
        }
        reached[y][x] = true;
        reach(cells, kind, x - 1, y, reached);
        reach(cells, kind, x + 1, y, reached);
        reach(cells, kind, x, y - 1, reached);
        reach(cells, kind, x, y + 1, reached);
    }

    private static boolean[][] looseOf(boolean[][] dark) {
        boolean[][] hangs = new boolean[5][5];
        for (int i = 0; i < 5; i++) {
            reach(dark, true, i, 0, hangs);
            reach(dark, true, i, 4, hangs);
            reach(dark, true, 0, i, hangs);
            reach(dark, true, 4, i, hangs);
        }
        boolean[][] loose = new boolean[5][5];
        for (int i = 0; i < 25; i++) {
            loose[i / 5][i % 5] = dark[i / 5][i % 5] && !hangs[i / 5][i % 5];
        }
        return loose;
    }

    public int dark(int sheet) {
        needSheet(sheet);
        return bits(w.sheets.get(sheet).dark);
    }

    public int loose(int sheet) {
        needSheet(sheet);
        return bits(looseOf(w.sheets.get(sheet).dark));
    }

    public int bridges(int sheet) {
        needSheet(sheet);
        for (int n = 0; n <= 4; n++) {
            int best = leastBridge(dark(sheet), 0, 0, n);
            if (best != Integer.MAX_VALUE) {
                return best;
            }
        }
        return NONE;
    }

    private static int leastBridge(int dark, int from, int pasted, int n) {
        if (n == 0) {
            return bits(looseOf(cells(dark | pasted))) == 0 ? pasted : Integer.MAX_VALUE;
        }
        int best = Integer.MAX_VALUE;
        for (int cell = from; cell < 25; cell++) {
            if ((dark >> cell & 1) == 0) {
                best = Math.min(best, leastBridge(dark, cell + 1, pasted | 1 << cell, n - 1));
            }
        }
        return best;
    }

    public int slot(int k, int x, int y) {
        if (k < 1 || k > 3 || x < -12 || x > 12 || y < -12 || y > 12) {
            throw new IllegalArgumentException();
        }
        if (w.slots.size() == 4) {
            throw new UnsupportedOperationException();
        }
        Slot s = new Slot();
        s.k = k;
        s.x = x;
        s.y = y;
        w.slots.add(s);
        w.setting.add(NONE);
        return w.slots.size() - 1;
    }

    public int lamp(int width) {
        if (width != 0 && width != 1) {
            throw new IllegalArgumentException();
        }
        int was = w.width;
        w.width = width;
        return was;
    }

    public int hands(int n) {
        if (n != 1 && n != 2) {
            throw new IllegalArgumentException();
        }
        int was = w.hands;
        w.hands = n;
        return was;
    }

    private static List<Integer> after(List<Integer> setting, int slot, int sheet) {
        List<Integer> then = new ArrayList<>(setting);
        if (sheet != NONE && then.contains(sheet)) {
            then.set(then.indexOf(sheet), NONE);
        }
        then.set(slot, sheet);
        return then;
    }

    public int put(int slot, int sheet) {
        needSlot(slot);
        if (sheet != NONE) {
            needSheet(sheet);
        }
        int was = w.setting.get(slot);
        w.setting = after(w.setting, slot, sheet);
        return was;
    }

    public int in(int slot) {
        needSlot(slot);
        return w.setting.get(slot);
    }

    private static boolean covered(boolean[][] dark, Slot slot, int seat, int x, int y) {
        int cx = Math.floorDiv(x - slot.x - seat * (slot.k - 1), slot.k);
        int cy = Math.floorDiv(y - slot.y, slot.k);
        return cx >= 0 && cx < 5 && cy >= 0 && cy < 5 && dark[cy][cx];
    }

    /** 2 full, 1 half, 0 none. */
    private int shadeOfOne(boolean[][] dark, Slot slot, int seat, int spot) {
        int x = spot % 12;
        int y = spot / 12;
        if (!covered(dark, slot, seat, x, y)) {
            return 0;
        }
        int steps = w.width * (slot.k - 1);
        for (int dx = -steps; dx <= steps; dx++) {
            for (int dy = -steps; dy <= steps; dy++) {
                if (Math.abs(dx) + Math.abs(dy) <= steps && !covered(dark, slot, seat, x + dx, y + dy)) {
                    return 1;
                }
            }
        }
        return 2;
    }

    /** By slot and sheet the shade of each spot. */
    private int[][][] lone(int light, int seat) {
        int[][][] all = new int[w.slots.size()][w.sheets.size()][144];
        for (int i = 0; i < w.slots.size(); i++) {
            for (int j = 0; j < w.sheets.size(); j++) {
                for (int spot = 0; spot < 144; spot++) {
                    boolean keepsOff = (w.sheets.get(j).mask & 1 << light) != 0;
                    all[i][j][spot] = keepsOff ? shadeOfOne(w.sheets.get(j).dark, w.slots.get(i), seat, spot) : 0;
                }
            }
        }
        return all;
    }

    private static int[] shadesBy(List<Integer> setting, int[][][] lone) {
        int[] shades = new int[144];
        for (int spot = 0; spot < 144; spot++) {
            int full = 0;
            int half = 0;
            for (int i = 0; i < setting.size(); i++) {
                if (setting.get(i) != NONE) {
                    int one = lone[i][setting.get(i)][spot];
                    full += one == 2 ? 1 : 0;
                    half += one == 1 ? 1 : 0;
                }
            }
            shades[spot] = full > 0 || half >= 2 ? 2 : half;
        }
        return shades;
    }

    public int shade(int spot, int light, int seat) {
        needSpot(spot);
        needLight(light);
        needSeat(seat);
        return shadesBy(w.setting, lone(light, seat))[spot];
    }

    public int shades(int shade, int light, int seat) {
        needLight(light);
        needSeat(seat);
        if (shade < 0 || shade > 2) {
            throw new IllegalArgumentException();
        }
        int n = 0;
        for (int one : shadesBy(w.setting, lone(light, seat))) {
            n += one == shade ? 1 : 0;
        }
        return n;
    }

    public int told(int scene, int spot) {
        needScene(scene);
        needSpot(spot);
        return w.scenes.get(scene)[spot];
    }

    private List<Integer> wrongs(List<Integer> setting, int[] scene, int[][][] lone) {
        List<Integer> wrong = new ArrayList<>();
        int[] shades = shadesBy(setting, lone);
        for (int spot = 0; spot < 144; spot++) {
            if (scene[spot] != 3 && scene[spot] != shades[spot]) {
                wrong.add(spot);
            }
        }
        return wrong;
    }

    public int wrong(int scene, int light, int seat, int nth) {
        needScene(scene);
        needLight(light);
        needSeat(seat);
        if (nth < NONE) {
            throw new IllegalArgumentException();
        }
        List<Integer> wrong = wrongs(w.setting, w.scenes.get(scene), lone(light, seat));
        return nth == NONE ? wrong.size() : nth < wrong.size() ? wrong.get(nth) : NONE;
    }

    @SuppressWarnings("unchecked")
    private boolean isAllowed(List<Integer> setting) {
        for (Object[] rule : w.rules) {
            List<Integer> n = (List<Integer>) rule[1];
            int a = setting.indexOf(n.get(0));
            int b = setting.indexOf(n.get(1));
            boolean kept = switch ((String) rule[0]) {
                case "never" -> !setting.get(n.get(1)).equals(n.get(0));
                case "with" -> a >= 0 == b >= 0;
                case "apart" -> a < 0 || b < 0;
                default -> a < 0 || b < 0 || w.slots.get(a).k > w.slots.get(b).k;
            };
            if (!kept) {
                return false;
            }
        }
        return true;
    }

    private void allSettings(List<Integer> begun, List<List<Integer>> into) {
        if (begun.size() == w.slots.size()) {
            if (isAllowed(begun)) {
                into.add(new ArrayList<>(begun));
            }
            return;
        }
        for (int sheet = NONE; sheet < w.sheets.size(); sheet++) {
            if (sheet == NONE || !begun.contains(sheet)) {
                begun.add(sheet);
                allSettings(begun, into);
                begun.remove(begun.size() - 1);
            }
        }
    }

    private static int inSlots(List<Integer> setting) {
        int n = 0;
        for (int sheet : setting) {
            n += sheet == NONE ? 0 : 1;
        }
        return n;
    }

    /** All that are allowed, the FIRST first. */
    private List<List<Integer>> allowedSettings() {
        List<List<Integer>> all = new ArrayList<>();
        allSettings(new ArrayList<>(), all);
        all.sort((a, b) -> {
            if (inSlots(a) != inSlots(b)) {
                return inSlots(a) - inSlots(b);
            }
            for (int i = 0; i < a.size(); i++) {
                if (!a.get(i).equals(b.get(i))) {
                    return a.get(i) - b.get(i);
                }
            }
            return 0;
        });
        return all;
    }

    /** By each setting the spots that are wrong in all views together. */
    private List<Integer> wrongBySetting(List<List<Integer>> settings, List<int[]> views) {
        List<Integer> sums = new ArrayList<>();
        List<int[][][]> lones = new ArrayList<>();
        for (int[] view : views) {
            lones.add(lone(view[1], view[2]));
        }
        for (List<Integer> setting : settings) {
            int sum = 0;
            for (int i = 0; i < views.size(); i++) {
                sum += wrongs(setting, w.scenes.get(views.get(i)[0]), lones.get(i)).size();
            }
            sums.add(sum);
        }
        return sums;
    }

    private int bestOf(List<int[]> views, int slot) {
        List<List<Integer>> settings = allowedSettings();
        List<Integer> sums = wrongBySetting(settings, views);
        int least = java.util.Collections.min(sums);
        return slot == NONE ? least : settings.get(sums.indexOf(least)).get(slot);
    }

    public int best(int scene, int light, int seat, int slot) {
        needScene(scene);
        needLight(light);
        needSeat(seat);
        if (slot != NONE) {
            needSlot(slot);
        }
        return bestOf(List.of(new int[] {scene, light, seat}), slot);
    }

    public int rules() {
        List<Object[]> rules = read(useTape(), "never", "with", "apart", "near");
        if (rules == null) {
            throw new IllegalArgumentException();
        }
        w.rules = rules;
        return rules.size();
    }

    public boolean allowed() {
        return isAllowed(w.setting);
    }

    public int step(int scene, int light, int seat) {
        needScene(scene);
        needLight(light);
        needSeat(seat);
        int[][][] lone = lone(light, seat);
        int least = wrongs(w.setting, w.scenes.get(scene), lone).size();
        int found = NONE;
        for (int slot = 0; slot < w.slots.size(); slot++) {
            for (int sheet = NONE; sheet < w.sheets.size(); sheet++) {
                List<Integer> then = after(w.setting, slot, sheet);
                int wrong = wrongs(then, w.scenes.get(scene), lone).size();
                if (isAllowed(then) && wrong < least) {
                    least = wrong;
                    found = 10 * slot + sheet + 1;
                }
            }
        }
        return found;
    }

    public int seats(int scene, int light) {
        needScene(scene);
        needLight(light);
        int bits = 0;
        for (int seat = -3; seat <= 3; seat++) {
            if (wrong(scene, light, seat, NONE) == 0) {
                bits += 1 << seat + 3;
            }
        }
        return bits;
    }

    public int holes(int sheet) {
        needSheet(sheet);
        boolean[][] reached = new boolean[5][5];
        int holes = 0;
        for (int i = 0; i < 25; i++) {
            if (!w.sheets.get(sheet).dark[i / 5][i % 5] && !reached[i / 5][i % 5]) {
                holes++;
                reach(w.sheets.get(sheet).dark, false, i % 5, i / 5, reached);
            }
        }
        return holes;
    }

    private static boolean fray(boolean[][] dark) {
        for (int y = 0; y < 5; y++) {
            for (int x = 0; x < 5; x++) {
                boolean open = x > 0 && !dark[y][x - 1] || x < 4 && !dark[y][x + 1]
                        || y > 0 && !dark[y - 1][x] || y < 4 && !dark[y + 1][x];
                if (dark[y][x] && open) {
                    dark[y][x] = false;
                    return true;
                }
            }
        }
        return false;
    }

    public int lasts(int sheet) {
        needSheet(sheet);
        boolean[][] dark = grid(w.sheets.get(sheet).dark);
        int times = 0;
        while (bits(looseOf(dark)) == 0) {
            if (!fray(dark)) {
                return NONE;
            }
            times++;
        }
        return times;
    }

    public int idle(int light, int seat) {
        needLight(light);
        needSeat(seat);
        int[][][] lone = lone(light, seat);
        int bits = 0;
        for (int slot = 0; slot < w.slots.size(); slot++) {
            if (w.setting.get(slot) != NONE) {
                int[] without = shadesBy(after(w.setting, slot, NONE), lone);
                bits |= Arrays.equals(shadesBy(w.setting, lone), without) ? 1 << w.setting.get(slot) : 0;
            }
        }
        return bits;
    }

    public int unlike(int frame, int other, int light, int seat) {
        needFrame(frame);
        needFrame(other);
        needLight(light);
        needSeat(seat);
        int[] a = shadesBy(w.frames.get(frame), lone(light, seat));
        int[] b = shadesBy(w.frames.get(other), lone(light, seat));
        int n = 0;
        for (int spot = 0; spot < 144; spot++) {
            n += a[spot] == b[spot] ? 0 : 1;
        }
        return n;
    }

    public int shaped(int sheet, int cells) {
        needSheet(sheet);
        if (cells < 0 || cells >= 1 << 25) {
            throw new IllegalArgumentException();
        }
        Set<Integer> reached = new HashSet<>(Set.of(dark(sheet)));
        for (int n = 0; n <= 2; n++) {
            if (reached.contains(cells)) {
                return n;
            }
            if (n < 2) {
                reached = oneStrokeOn(reached);
            }
        }
        return NONE;
    }

    private static List<Integer> boxes = null;

    private static Set<Integer> oneStrokeOn(Set<Integer> before) {
        if (boxes == null) {
            boxes = new ArrayList<>();
            for (int i = 0; i < 625; i++) {
                List<Integer> n = List.of(i % 5, i / 5 % 5, i / 25 % 5 + 1, i / 125 + 1);
                if (n.get(0) + n.get(2) <= 5 && n.get(1) + n.get(3) <= 5) {
                    boxes.add(bits(stroke(new boolean[5][5], new Object[] {"paste", n})));
                }
            }
        }
        Set<Integer> after = new HashSet<>();
        for (int cells : before) {
            for (int box : boxes) {
                after.add(cells | box);
                after.add(cells & ~box);
            }
            after.add(bits(stroke(cells(cells), new Object[] {"turn", null})));
            after.add(bits(stroke(cells(cells), new Object[] {"flip", null})));
        }
        return after;
    }

    public int order(int k) {
        if (k < NONE) {
            throw new IllegalArgumentException();
        }
        if (w.frames.size() > 8) {
            return -3;
        }
        if (w.frames.isEmpty()) {
            return k == NONE ? 0 : NONE;
        }
        int[] best = {Integer.MAX_VALUE};
        List<Integer> bestOrder = new ArrayList<>();
        permute(new ArrayList<>(List.of(0)), 0, best, bestOrder);
        return k == NONE ? best[0] : k < bestOrder.size() ? bestOrder.get(k) : NONE;
    }

    private void permute(List<Integer> begun, int moves, int[] best, List<Integer> bestOrder) {
        if (begun.size() == w.frames.size()) {
            if (moves < best[0]) {
                best[0] = moves;
                bestOrder.clear();
                bestOrder.addAll(begun);
            }
            return;
        }
        for (int next = 1; next < w.frames.size(); next++) {
            if (!begun.contains(next)) {
                int more = moves(begun.get(begun.size() - 1), next);
                begun.add(next);
                permute(begun, moves + more, best, bestOrder);
                begun.remove(begun.size() - 1);
            }
        }
    }

    public int together(int slot) {
        if (slot != NONE) {
            needSlot(slot);
        }
        return bestOf(w.seen, slot);
    }

    public int bound(int scene, int light, int seat) {
        needScene(scene);
        needLight(light);
        needSeat(seat);
        int[][][] lone = lone(light, seat);
        Set<Integer> always = null;
        for (List<Integer> setting : allowedSettings()) {
            List<Integer> wrong = wrongs(setting, w.scenes.get(scene), lone);
            if (always == null) {
                always = new HashSet<>(wrong);
            }
            always.retainAll(new HashSet<>(wrong));
        }
        return always.size();
    }

    public int helps(int sheet, int scene, int light, int seat) {
        needSheet(sheet);
        needScene(scene);
        needLight(light);
        needSeat(seat);
        int slot = w.setting.indexOf(sheet);
        if (slot < 0) {
            throw new IllegalStateException();
        }
        int[][][] lone = lone(light, seat);
        return wrongs(after(w.setting, slot, NONE), w.scenes.get(scene), lone).size()
                - wrongs(w.setting, w.scenes.get(scene), lone).size();
    }

    public int anew(int sheet, int scene, int light, int seat) {
        needSheet(sheet);
        needScene(scene);
        needLight(light);
        needSeat(seat);
        Sheet s = w.sheets.get(sheet);
        if (w.width == 1 || !w.setting.contains(sheet) || (s.mask & 1 << light) == 0) {
            throw new IllegalStateException();
        }
        int others = 0;
        boolean[][] was = s.dark;
        for (int i = 0; i < 25; i++) {
            s.dark = grid(was);
            s.dark[i / 5][i % 5] = true;
            int withIt = wrong(scene, light, seat, NONE);
            s.dark[i / 5][i % 5] = false;
            int without = wrong(scene, light, seat, NONE);
            s.dark = was;
            boolean then = withIt < without || withIt == without && was[i / 5][i % 5];
            others |= then != was[i / 5][i % 5] ? 1 << i : 0;
        }
        return others;
    }

    public int frame() {
        if (w.frames.size() == 12) {
            throw new UnsupportedOperationException();
        }
        w.frames.add(new ArrayList<>(w.setting));
        return w.frames.size() - 1;
    }

    /** Where each sheet is: a slot's number, or 'c' (chest), or 'h' (a hand). */
    private String places(List<Integer> setting) {
        StringBuilder places = new StringBuilder();
        for (int sheet = 0; sheet < w.sheets.size(); sheet++) {
            int slot = setting.indexOf(sheet);
            places.append(slot < 0 ? 'c' : (char) ('0' + slot));
        }
        return places.toString();
    }

    private int fewestMoves(List<Integer> from, List<Integer> to) {
        String start = places(from);
        String goal = places(to);
        String key = start + ">" + goal + ">" + w.slots.size() + ">" + w.hands;
        Integer known = MOVES.get(key);
        if (known == null) {
            known = searchMoves(start, goal);
            MOVES.put(key, known);
        }
        return known;
    }

    private int searchMoves(String start, String goal) {
        Map<String, Integer> steps = new HashMap<>(Map.of(start, 0));
        ArrayDeque<String> queue = new ArrayDeque<>(List.of(start));
        while (!queue.isEmpty()) {
            String here = queue.poll();
            if (here.equals(goal)) {
                return steps.get(here);
            }
            for (int i = 0; i < here.length(); i++) {
                String ways = "";
                if (here.charAt(i) == 'h') {
                    ways = "c" + "0123".substring(0, w.slots.size());
                } else if (here.chars().filter(c -> c == 'h').count() < 2 * w.hands) {
                    ways = "h";
                }
                for (char way : ways.toCharArray()) {
                    String then = here.substring(0, i) + way + here.substring(i + 1);
                    boolean taken = way <= '3' && here.indexOf(way) >= 0;
                    if (!taken && !steps.containsKey(then)) {
                        steps.put(then, steps.get(here) + 1);
                        queue.add(then);
                    }
                }
            }
        }
        throw new AssertionError("no way");
    }

    private List<Integer> filled(List<Integer> frame) {
        List<Integer> full = new ArrayList<>(frame);
        while (full.size() < w.slots.size()) {
            full.add(NONE);
        }
        return full;
    }

    public int moves(int from, int to) {
        needFrame(from);
        needFrame(to);
        return fewestMoves(w.frames.get(from), w.frames.get(to));
    }

    public int row() {
        int sum = 0;
        for (int i = 1; i < w.frames.size(); i++) {
            sum += moves(i - 1, i);
        }
        return sum;
    }

    public int take(int frame) {
        needFrame(frame);
        int moves = fewestMoves(w.setting, w.frames.get(frame));
        w.setting = filled(w.frames.get(frame));
        return moves;
    }

    public int play(int times) {
        if (times < 1 || times > 50) {
            throw new IllegalArgumentException();
        }
        int frayed = 0;
        for (int i = 0; i < times; i++) {
            for (List<Integer> frame : w.frames) {
                for (int sheet : frame) {
                    if (sheet != NONE) {
                        Sheet s = w.sheets.get(sheet);
                        s.uses++;
                        if (s.uses % 10 == 0) {
                            s.dark = grid(s.dark);
                            frayed += fray(s.dark) ? 1 : 0;
                        }
                    }
                }
            }
        }
        return frayed;
    }

    public int uses(int sheet) {
        needSheet(sheet);
        return w.sheets.get(sheet).uses;
    }

    public int paste(int sheet) {
        needSheet(sheet);
        Sheet s = w.sheets.get(sheet);
        int others = Integer.bitCount(bits(s.dark) ^ bits(s.told));
        s.dark = s.told;
        return others;
    }

    public int seen(int scene, int light, int seat) {
        needScene(scene);
        needLight(light);
        needSeat(seat);
        if (w.seen.size() == 6) {
            throw new UnsupportedOperationException();
        }
        w.seen.add(new int[] {scene, light, seat});
        return w.seen.size();
    }

    public int guess(int slot) {
        if (slot != NONE) {
            needSlot(slot);
        }
        List<List<Integer>> settings = allowedSettings();
        List<Integer> sums = wrongBySetting(settings, w.seen);
        if (slot == NONE) {
            return java.util.Collections.frequency(sums, 0);
        }
        return sums.contains(0) ? settings.get(sums.indexOf(0)).get(slot) : -2;
    }

    public void image() {
        image = w.copy();
    }

    public boolean back() {
        if (image == null) {
            return false;
        }
        w = image.copy();
        return true;
    }

    public int count(int what) {
        int dark = 0;
        for (Sheet s : w.sheets) {
            dark += Integer.bitCount(bits(s.dark));
        }
        int[] counts = {w.sheets.size(), w.slots.size(), w.scenes.size(), w.frames.size(), w.seen.size(),
            w.width, w.hands, inSlots(w.setting), dark, w.rules.size()};
        return what >= 0 && what < counts.length ? counts[what] : NONE;
    }

    private static void need(boolean there) {
        if (!there) {
            throw new IndexOutOfBoundsException();
        }
    }

    private void needSheet(int n) {
        need(n >= 0 && n < w.sheets.size());
    }

    private void needSlot(int n) {
        need(n >= 0 && n < w.slots.size());
    }

    private void needScene(int n) {
        need(n >= 0 && n < w.scenes.size());
    }

    private void needFrame(int n) {
        need(n >= 0 && n < w.frames.size());
    }

    private static void needSpot(int n) {
        need(n >= 0 && n < 144);
    }

    private static void needLight(int n) {
        need(n >= 0 && n < 3);
    }

    private static void needSeat(int n) {
        need(n >= -3 && n <= 3);
    }
}
