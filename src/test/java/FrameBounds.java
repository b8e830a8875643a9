/** Promises 30, 35 to 38 and 44 to 46 (frames, moves, the image, counts) at their bounds. */
final class FrameBounds {
    private static final int NONE = Edge.NONE;
    private static final int ALL = Edge.ALL;
    private static final int FAR = Edge.FAR;
    private static final int LOW = Edge.LOW;

    private FrameBounds() {
    }

    private static void due(Object want, LampSheets x, String name, Object... args) {
        Edge.due(want, x, name, args);
    }

    /** Six sheets and four slots. */
    private static LampSheets chest() {
        LampSheets x = Edge.made("", "", "", "", "", "");
        for (int n = 0; n < 4; n++) {
            x.slot(1, 0, 0);
        }
        return x;
    }

    private static void keep(LampSheets x, int... setting) {
        for (int slot = 0; slot < 4; slot++) {
            x.put(slot, NONE);
        }
        for (int slot = 0; slot < setting.length; slot++) {
            x.put(slot, setting[slot]);
        }
        x.frame();
    }

    private static LampSheets manyFrames(int frames) {
        LampSheets x = new LampSheets();
        for (int n = 0; n < frames; n++) {
            x.frame();
        }
        return x;
    }

    private static void dueOrder(LampSheets x, int moves, int... frames) {
        due(moves, x, "order", NONE);
        for (int k = 0; k < frames.length; k++) {
            due(frames[k], x, "order", k);
        }
        due(NONE, x, "order", frames.length);
        due(NONE, x, "order", FAR);
    }

    static void promise30KFromNoneOn() {
        Edge.wrongBelow("order", 0, NONE, 0);
        for (int frames : new int[] {0, 8, 9}) {
            due(Check.WRONG_ARGUMENT, manyFrames(frames), "order", -2);
            due(Check.WRONG_ARGUMENT, manyFrames(frames), "order", LOW);
        }
    }

    static void promise30WithoutFrames() {
        dueOrder(manyFrames(0), 0);
    }

    static void promise30OneFrame() {
        dueOrder(manyFrames(1), 0, 0);
    }

    static void promise30EightFramesAndNine() {
        dueOrder(manyFrames(8), 0, 0, 1, 2, 3, 4, 5, 6, 7);
        for (int frames : new int[] {9, 12}) {
            for (int k : new int[] {NONE, 0, 8, frames - 1, frames, FAR}) {
                due(-3, manyFrames(frames), "order", k);
            }
        }
    }

    static void promise30FrameZeroStaysFirst() {
        LampSheets x = chest();
        keep(x, 0);
        keep(x);
        keep(x, 0, 1);
        dueOrder(x, 6, 0, 1, 2);
    }

    static void promise30FewestMoves() {
        LampSheets x = chest();
        keep(x);
        keep(x, 0, 1, 2, 3);
        keep(x, 0);
        keep(x, 0, 1, 2);
        keep(x, 0, 1);
        dueOrder(x, 8, 0, 2, 4, 3, 1);
    }

    static void promise30FirstByNumbersOfSeveral() {
        LampSheets x = chest();
        keep(x);
        keep(x, 0);
        keep(x, 1);
        keep(x, 2);
        dueOrder(x, 10, 0, 1, 2, 3);
        LampSheets y = chest();
        keep(y);
        keep(y, 0);
        keep(y);
        keep(y, 0);
        dueOrder(y, 2, 0, 2, 1, 3);
    }

    static void promise35TwelveFramesFromZeroOn() {
        LampSheets x = new LampSheets();
        for (int n = 0; n < 12; n++) {
            due(n, x, "frame");
        }
        due(12, x, "count", 3);
        Edge.refused(Check.TOO_MANY, Edge::fullHouse, "frame");
    }

    static void promise35KeepsTheSettingAsItIs() {
        LampSheets x = chest();
        keep(x, 5, NONE, 0);
        x.put(0, 1);
        x.put(1, 5);
        due(4, x, "take", 0);
        due(5, x, "in", 0);
        due(NONE, x, "in", 1);
        due(0, x, "in", 2);
        due(NONE, x, "in", 3);
    }

    static void promise35MayBeWhatIsNotAllowed() {
        LampSheets x = chest();
        Edge.rules(x, "never 0 0");
        x.put(0, 0);
        due(false, x, "allowed");
        due(0, x, "frame");
    }

    static void promise36NoSuchFrame() {
        Edge.index("moves", 0, 0, 2, 0, 0);
        Edge.index("moves", 1, 0, 2, 0, 0);
        due(Check.NO_SUCH, Edge.fullHouse(), "moves", 12, 0);
        due(Check.NO_SUCH, Edge.fullHouse(), "moves", 0, 12);
    }

    static void promise36NoneFromAFrameToItself() {
        LampSheets x = chest();
        keep(x);
        keep(x, 0, 1, 2, 3);
        keep(x, 0, 1, 2, 3);
        due(0, x, "moves", 0, 0);
        due(0, x, "moves", 1, 1);
        due(0, x, "moves", 1, 2);
    }

    static void promise36AllThatThereIs() {
        for (int hands = 1; hands <= 2; hands++) {
            LampSheets x = chest();
            x.hands(hands);
            keep(x);
            keep(x, 0, 1, 2, 3);
            keep(x, 4, 5, 0, 1);
            keep(x, 3, 0, 1, 2);
            due(8, x, "moves", 0, 1);
            due(8, x, "moves", 1, 0);
            due(12, x, "moves", 1, 2);
            due(12, x, "moves", 2, 1);
            due(8, x, "moves", 1, 3);
        }
    }

    static void promise36OneSheet() {
        LampSheets x = chest();
        keep(x, 0);
        keep(x, NONE, 0);
        keep(x, 1);
        keep(x, 1, 0);
        keep(x, 0, 1);
        due(2, x, "moves", 0, 1);
        due(4, x, "moves", 0, 2);
        due(2, x, "moves", 2, 3);
        due(4, x, "moves", 3, 4);
    }

    static void promise37FewerThanTwo() {
        due(0, manyFrames(0), "row");
        LampSheets x = chest();
        keep(x, 0, 1, 2, 3);
        due(0, x, "row");
    }

    static void promise37TwoToTwelve() {
        LampSheets x = chest();
        for (int n = 0; n < 12; n++) {
            keep(x, n % 2 == 0 ? 0 : 1);
            due(4 * n, x, "row");
        }
    }

    static void promise37TheLastDoesNotGoBackToTheFirst() {
        LampSheets x = chest();
        keep(x);
        keep(x, 0);
        keep(x, 0, 1);
        due(4, x, "row");
    }

    static void promise38NoSuchFrame() {
        Edge.index("take", 0, 0, 2, 0);
        due(Check.NO_SUCH, Edge.fullHouse(), "take", 12);
    }

    static void promise38NoneIfItIsSetAlready() {
        LampSheets x = chest();
        keep(x, 0, 1, 2, 3);
        due(0, x, "take", 0);
        due(3, x, "in", 3);
    }

    static void promise38MovesThatItTook() {
        LampSheets x = chest();
        keep(x);
        keep(x, 0, 1, 2, 3);
        keep(x, 4, 5, 0, 1);
        due(12, x, "take", 1);
        due(8, x, "take", 0);
        due(0, x, "count", 7);
        due(8, x, "take", 2);
        due(4, x, "in", 0);
        due(1, x, "in", 3);
        due(3, x, "count", 3);
    }

    static void promise38FrameOfASlotAgo() {
        LampSheets x = Edge.made("", "");
        x.frame();
        x.slot(1, 0, 0);
        x.put(0, 1);
        due(2, x, "take", 0);
        due(NONE, x, "in", 0);
    }

    static void promise38UsesStay() {
        LampSheets x = chest();
        keep(x, 0);
        x.take(0);
        due(0, x, "uses", 0);
    }

    static void promise44AnImageOfNothing() {
        LampSheets x = new LampSheets();
        x.image();
        Edge.sheet(x, 1, "");
        x.slot(1, 0, 0);
        x.put(0, 0);
        Edge.scene(x, "dark 0 0 12 12;half 0 0 12 5;any 0 0 12 2");
        x.frame();
        x.play(5);
        x.seen(0, 0, 0);
        x.lamp(1);
        x.hands(1);
        Edge.rules(x, "never 0 0");
        due(true, x, "back");
        for (int what = 0; what <= 9; what++) {
            due(what == 6 ? 2 : 0, x, "count", what);
        }
        due(0, x, "sheet", 2);
        due(0, x, "uses", 0);
        due(0, x, "slot", 1, 0, 0);
        due(NONE, x, "in", 0);
        due(0, x, "scene");
        for (int spot = 0; spot < 144; spot++) {
            due(0, x, "told", 0, spot);
        }
        x.put(0, 0);
        due(0, x, "shades", 2, 0, 0);
        due(25, x, "shades", 2, 1, 0);
    }

    static void promise44TheLatestIsTheOne() {
        LampSheets x = chest();
        x.image();
        x.put(0, 0);
        x.image();
        x.put(0, 1);
        due(true, x, "back");
        due(0, x, "in", 0);
        x.put(0, 2);
        due(true, x, "back");
        due(0, x, "in", 0);
    }

    static void promise44NothingElseHappens() {
        LampSheets x = Edge.house();
        x.image();
        due(3, x, "count", 0);
        due(true, x, "end", 11);
        due(0, x, "in", 0);
        due(9, x, "fault");
    }

    static void promise44WhatComesLaterIsNotInIt() {
        LampSheets x = Edge.made("cut 0 0 1 1");
        x.slot(1, 0, 0);
        x.put(0, 0);
        x.frame();
        x.play(9);
        x.image();
        x.play(1);
        due(ALL & ~Edge.bits(0, 1), x, "dark", 0);
        Edge.withText(x, "cut 4 4 1 1").strokes(0);
        due(true, x, "back");
        due(ALL - 1, x, "dark", 0);
        due(9, x, "uses", 0);
        due(0, x, "paste", 0);
        due(ALL - 1, x, "dark", 0);
        due(1, x, "play", 1);
    }

    static void promise45NoneWasKept() {
        LampSheets x = chest();
        keep(x, 0, 1);
        x.lamp(1);
        due(false, x, "back");
        due(2, x, "count", 7);
        due(6, x, "count", 0);
        due(1, x, "count", 5);
        due(1, x, "count", 3);
        Edge.refused(false, FrameBounds::chest, "back");
    }

    static void promise45ManyTimes() {
        LampSheets x = chest();
        x.image();
        for (int n = 0; n < 6; n++) {
            x.put(0, n);
            due(true, x, "back");
            due(NONE, x, "in", 0);
        }
    }

    static void promise45TheTapeStays() {
        LampSheets x = Edge.withText(new LampSheets(), "cut 0 0 1 1");
        x.image();
        Check.text(x, "cut 4 4 1 1 ");
        due(true, x, "back");
        due(false, x, "end", 13);
        due(true, x, "end", 12);
        due(0, x, "sheet", 1);
        due(ALL & ~(1 << 24), x, "dark", 0);
        due(true, x, "back");
        due(false, x, "end", 1);
    }

    static void promise45TheFaultStays() {
        LampSheets x = Edge.withText(new LampSheets(), "turn;");
        due(Check.WRONG_ARGUMENT, x, "sheet", 1);
        x.image();
        due(0, x, "sheet", 1);
        due(true, x, "back");
        due(NONE, x, "fault");
        Check.text(x, "turn ;");
        due(Check.WRONG_ARGUMENT, x, "sheet", 1);
        due(true, x, "back");
        due(6, x, "fault");
    }

    static void promise45ToAsMuchAsThereMayBe() {
        LampSheets x = Edge.fullHouse();
        LampSheets twin = Edge.fullHouse();
        x.take(0);
        x.play(50);
        x.lamp(1);
        x.hands(1);
        Edge.rules(x, "");
        Edge.withText(x, "cut 0 0 5 5").strokes(5);
        due(true, x, "back");
        for (int what = 0; what <= 9; what++) {
            due(twin.count(what), x, "count", what);
        }
        for (int slot = 0; slot < 4; slot++) {
            due(twin.in(slot), x, "in", slot);
            due(twin.together(slot), x, "together", slot);
        }
        for (int sheet = 0; sheet < 6; sheet++) {
            due(twin.dark(sheet), x, "dark", sheet);
            due(0, x, "uses", sheet);
            due(0, x, "paste", sheet);
        }
        for (int frame = 1; frame < 12; frame++) {
            due(twin.moves(frame - 1, frame), x, "moves", frame - 1, frame);
        }
        due(twin.row(), x, "row");
        due(twin.together(NONE), x, "together", NONE);
        due(twin.guess(NONE), x, "guess", NONE);
    }

    static void promise45TheRulesAreThoseOfTheImage() {
        LampSheets x = Edge.made("", "");
        x.slot(1, 0, 0);
        Edge.rules(x, "with 0 1;never 0 0");
        x.image();
        Edge.rules(x, "never 1 0;never 1 0");
        due(true, x, "back");
        due(2, x, "count", 9);
        x.put(0, 1);
        due(false, x, "allowed");
        Edge.rules(x, "");
        due(true, x, "allowed");
        due(true, x, "back");
        due(2, x, "count", 9);
        x.put(0, 0);
        due(false, x, "allowed");
    }

    static void promise45AllOfTwentyRulesComeBack() {
        LampSheets x = Edge.made("", "");
        x.slot(1, 0, 0);
        Edge.rules(x, Edge.times(19, "never 1 0") + ";never 0 0");
        x.image();
        Edge.rules(x, Edge.times(20, "never 1 0"));
        x.put(0, 0);
        due(true, x, "allowed");
        due(true, x, "back");
        x.put(0, 0);
        due(false, x, "allowed");
    }

    static void promise45OrderOfTheFramesThatAreLeft() {
        LampSheets x = chest();
        keep(x);
        keep(x, 0);
        keep(x, 0, 1);
        x.image();
        keep(x, 3, 4, 5);
        keep(x, 5, 4, 3);
        keep(x, 1, 2, 3, 4);
        keep(x, 4, 3, 2, 1);
        keep(x, 2, 1);
        x.order(NONE);
        due(true, x, "back");
        dueOrder(x, 4, 0, 1, 2);
    }

    static void promise45FewerThingsAreThere() {
        LampSheets x = Edge.made("");
        x.slot(1, 0, 0);
        Edge.scene(x, "");
        x.frame();
        x.image();
        Edge.sheet(x, 7, "");
        x.slot(1, 0, 0);
        Edge.scene(x, "");
        x.put(1, 1);
        x.frame();
        due(true, x, "back");
        due(Check.NO_SUCH, x, "dark", 1);
        due(Check.NO_SUCH, x, "in", 1);
        due(Check.NO_SUCH, x, "told", 1, 0);
        due(Check.NO_SUCH, x, "take", 1);
        due(1, x, "slot", 2, 3, 3);
        due(NONE, x, "in", 1);
        due(0, x, "count", 7);
    }

    static void promise46NoneForAnotherWhat() {
        for (int what : new int[] {-1, 10, 11, LOW, FAR}) {
            due(NONE, new LampSheets(), "count", what);
            due(NONE, Edge.fullHouse(), "count", what);
        }
    }

    static void promise46NothingAndAsMuchAsThereMayBe() {
        LampSheets x = Edge.fullHouse();
        x.lamp(1);
        int[] most = {6, 4, 6, 12, 6, 1, 2, 4, 144, 20};
        for (int what = 0; what < most.length; what++) {
            due(most[what], x, "count", what);
        }
        LampSheets y = new LampSheets();
        for (int what = 0; what < most.length; what++) {
            due(what == 6 ? 2 : 0, y, "count", what);
        }
        due(2, y, "hands", 1);
        due(1, y, "count", 6);
    }

    static void promise46DarkCellsOfAllSheets() {
        due(150, chest(), "count", 8);
        due(0, Edge.made("cut 0 0 5 5"), "count", 8);
        due(1, Edge.made(Edge.only(24)), "count", 8);
    }
}
