/** Promises 19, 20, 22 to 24, 31 to 34, 42 and 43 (scenes, rules, searches, what was seen) at their bounds. */
final class SceneBounds {
    private static final int NONE = Edge.NONE;
    private static final int ALL = Edge.ALL;
    private static final int FAR = Edge.FAR;
    private static final int LOW = Edge.LOW;

    private SceneBounds() {
    }

    private static void due(Object want, LampSheets x, String name, Object... args) {
        Edge.due(want, x, name, args);
    }

    private static LampSheets told(LampSheets x, String... scenes) {
        for (String text : scenes) {
            Edge.scene(x, text);
        }
        return x;
    }

    /** So many sheets, all with the cell (0, 0) alone, and slots with K 1 at (0, 0). */
    private static LampSheets alike(int sheets, int slots) {
        LampSheets x = new LampSheets();
        for (int n = 0; n < sheets; n++) {
            Edge.sheet(x, 7, Edge.only(0));
        }
        for (int n = 0; n < slots; n++) {
            x.slot(1, 0, 0);
        }
        return x;
    }

    /** The indexes of a scene, a light and a seat, which stand one behind another. */
    private static void sceneLightSeat(String name, int from, Object... args) {
        Edge.index(name, from, 0, 2, args);
        Edge.index(name, from + 1, 0, 2, args);
        Edge.index(name, from + 2, -3, 3, args);
    }

    static void promise19NoSuchSceneLightSeat() {
        sceneLightSeat("wrong", 0, 0, 0, 0, NONE);
        due(Check.NO_SUCH, Edge.fullHouse(), "wrong", 6, 0, 0, NONE);
    }

    static void promise19NthFromNoneOn() {
        Edge.wrongBelow("wrong", 3, NONE, 0, 0, 0, NONE);
    }

    static void promise19NoSuchGoesAheadOfNth() {
        for (int nth : new int[] {-2, LOW}) {
            Edge.refused(Check.NO_SUCH, Edge::house, "wrong", 3, 0, 0, nth);
            Edge.refused(Check.NO_SUCH, Edge::house, "wrong", 0, 3, 0, nth);
            Edge.refused(Check.NO_SUCH, Edge::house, "wrong", 0, 0, 4, nth);
        }
    }

    static void promise19NothingIsWrong() {
        LampSheets x = told(new LampSheets(), "", "any 0 0 12 12");
        for (int scene = 0; scene < 2; scene++) {
            due(0, x, "wrong", scene, 0, 0, NONE);
            due(NONE, x, "wrong", scene, 0, 0, 0);
            due(NONE, x, "wrong", scene, 0, 0, FAR);
        }
    }

    static void promise19AllIsWrong() {
        LampSheets x = told(new LampSheets(), "dark 0 0 12 12", "half 0 0 12 12");
        for (int scene = 0; scene < 2; scene++) {
            due(144, x, "wrong", scene, 0, 0, NONE);
            due(0, x, "wrong", scene, 0, 0, 0);
            due(143, x, "wrong", scene, 0, 0, 143);
            due(NONE, x, "wrong", scene, 0, 0, 144);
        }
    }

    static void promise19NoneBehindTheLast() {
        LampSheets x = told(new LampSheets(), "dark 11 0 1 1;half 0 5 1 1;dark 11 11 1 1");
        due(3, x, "wrong", 0, 0, 0, NONE);
        due(11, x, "wrong", 0, 0, 0, 0);
        due(60, x, "wrong", 0, 0, 0, 1);
        due(143, x, "wrong", 0, 0, 0, 2);
        due(NONE, x, "wrong", 0, 0, 0, 3);
        due(NONE, x, "wrong", 0, 0, 0, FAR);
    }

    static void promise19EachWishAgainstEachShade() {
        LampSheets x = Edge.made(Edge.only(0));
        x.slot(2, 0, 0);
        x.put(0, 0);
        told(x, "any 0 0 12 12;light 0 0 1 1", "any 0 0 12 12;half 0 0 1 1", "any 0 0 12 12;dark 0 0 1 1");
        int[][] due = {{1, 1, 0}, {1, 0, 1}, {0, 1, 1}};
        for (int scene = 0; scene < 3; scene++) {
            x.lamp(0);
            x.put(0, 0);
            due(due[0][scene], x, "wrong", scene, 0, 0, NONE);
            x.lamp(1);
            due(due[1][scene], x, "wrong", scene, 0, 0, NONE);
            x.put(0, NONE);
            due(due[2][scene], x, "wrong", scene, 0, 0, NONE);
        }
    }

    static void promise19HalfIsNotTwoHalves() {
        LampSheets x = Edge.made(Edge.only(0), Edge.only(0));
        x.lamp(1);
        x.slot(2, 0, 0);
        x.slot(2, 1, 1);
        x.put(0, 0);
        x.put(1, 1);
        told(x, "any 0 0 12 12;half 1 1 1 1", "any 0 0 12 12;half 0 0 1 1", "any 0 0 12 12;dark 1 1 1 1");
        due(1, x, "wrong", 0, 0, 0, NONE);
        due(0, x, "wrong", 1, 0, 0, NONE);
        due(0, x, "wrong", 2, 0, 0, NONE);
    }

    static void promise20NoSuchSceneLightSeat() {
        sceneLightSeat("best", 0, 0, 0, 0, NONE);
        sceneLightSeat("best", 0, 0, 0, 0, 0);
    }

    static void promise20NoSuchSlot() {
        Edge.index("best", 3, NONE, 2, 0, 0, 0, 0);
        due(Check.NO_SUCH, Edge.fullHouse(), "best", 0, 0, 0, 4);
    }

    static void promise20NoSlotsOrNoSheets() {
        LampSheets x = told(Edge.made(""), "dark 0 0 1 1");
        due(1, x, "best", 0, 0, 0, NONE);
        due(Check.NO_SUCH, x, "best", 0, 0, 0, 0);
        LampSheets y = told(new LampSheets(), "dark 0 0 1 1");
        y.slot(1, 0, 0);
        due(1, y, "best", 0, 0, 0, NONE);
        due(NONE, y, "best", 0, 0, 0, 0);
    }

    static void promise20FewestSheetsFirst() {
        LampSheets x = told(alike(2, 2), "any 0 0 12 12", "dark 0 0 1 1");
        due(NONE, x, "best", 0, 0, 0, 0);
        due(NONE, x, "best", 0, 0, 0, 1);
        due(0, x, "best", 1, 0, 0, NONE);
        due(NONE, x, "best", 1, 0, 0, 0);
        due(0, x, "best", 1, 0, 0, 1);
    }

    static void promise20FewestWrongAheadOfFewestSheets() {
        LampSheets x = Edge.made(Edge.only(0), Edge.only(1), Edge.only(0, 1, 2));
        x.slot(1, 0, 0);
        x.slot(1, 0, 0);
        told(x, "dark 0 0 2 1");
        due(0, x, "best", 0, 0, 0, NONE);
        due(0, x, "best", 0, 0, 0, 0);
        due(1, x, "best", 0, 0, 0, 1);
    }

    /** Two sheets behind the slot 0, or one sheet in it: nothing is wrong by either. */
    private static LampSheets oneOrTwo() {
        LampSheets x = Edge.made(Edge.only(0, 1), Edge.only(0), Edge.only(0));
        x.slot(1, 0, 0);
        x.slot(1, 0, 0);
        x.slot(1, 1, 0);
        Edge.rules(x, "never 0 1;never 0 2");
        return told(x, "dark 0 0 2 1");
    }

    static void promise20FewestSheetsGoAheadOfNoneInSlotZero() {
        LampSheets x = oneOrTwo();
        due(0, x, "best", 0, 0, 0, NONE);
        due(0, x, "best", 0, 0, 0, 0);
        due(NONE, x, "best", 0, 0, 0, 1);
        due(NONE, x, "best", 0, 0, 0, 2);
    }

    static void promise20LesserSheetFirst() {
        LampSheets x = told(alike(6, 4), "dark 0 0 1 1");
        Edge.rules(x, "never 0 3;never 1 3");
        for (int slot = 0; slot < 4; slot++) {
            due(slot == 3 ? 2 : NONE, x, "best", 0, 0, 0, slot);
        }
        Edge.rules(x, "never 0 3;never 1 3;never 2 3;never 3 3;never 4 3;never 5 3;never 0 2");
        for (int slot = 0; slot < 4; slot++) {
            due(slot == 2 ? 1 : NONE, x, "best", 0, 0, 0, slot);
        }
    }

    static void promise20FirstSlotsGoAheadOfLaterOnes() {
        LampSheets x = told(alike(3, 3), "dark 0 0 1 1");
        Edge.rules(x, "with 0 1;with 1 2");
        for (int slot = 0; slot < 3; slot++) {
            due(slot, x, "best", 0, 0, 0, slot);
        }
        Edge.rules(x, "with 0 1;with 1 2;never 0 0");
        int[] first = {1, 0, 2};
        for (int slot = 0; slot < 3; slot++) {
            due(first[slot], x, "best", 0, 0, 0, slot);
        }
    }

    static void promise20OnlyWhatIsAllowed() {
        LampSheets x = told(alike(2, 1), "dark 0 0 1 1");
        Edge.rules(x, "never 0 0;never 1 0");
        due(1, x, "best", 0, 0, 0, NONE);
        due(NONE, x, "best", 0, 0, 0, 0);
        Edge.rules(x, "with 0 1");
        due(1, x, "best", 0, 0, 0, NONE);
    }

    static void promise20SettingStays() {
        LampSheets x = told(alike(2, 2), "dark 0 0 1 1");
        x.put(0, 1);
        x.best(0, 0, 0, 0);
        due(1, x, "in", 0);
        due(NONE, x, "in", 1);
    }

    private static void allowed(boolean want, String rules, int... setting) {
        LampSheets x = alike(6, 0);
        x.slot(1, 0, 0);
        x.slot(2, 0, 0);
        x.slot(2, 0, 0);
        x.slot(3, 0, 0);
        Edge.rules(x, rules);
        for (int slot = 0; slot < setting.length; slot++) {
            x.put(slot, setting[slot]);
        }
        due(want, x, "allowed");
    }

    static void promise22WithoutAText() {
        due(true, new LampSheets(), "allowed");
        allowed(true, "", 5, 4, 3, 2);
        allowed(true, "   ", 0);
    }

    static void promise22Never() {
        allowed(false, "never 0 0", 0);
        allowed(true, "never 0 0", NONE, 0);
        allowed(true, "never 0 0", 1);
        allowed(true, "never 0 0");
        allowed(false, "never 5 3", NONE, NONE, NONE, 5);
        allowed(true, "never 5 3", NONE, NONE, 5, 4);
    }

    static void promise22With() {
        allowed(true, "with 0 5");
        allowed(true, "with 0 5", 1, 2);
        allowed(true, "with 0 5", 0, 5);
        allowed(true, "with 0 5", 5, NONE, NONE, 0);
        allowed(false, "with 0 5", 0);
        allowed(false, "with 0 5", 5);
    }

    static void promise22Apart() {
        allowed(true, "apart 0 5");
        allowed(true, "apart 0 5", 0);
        allowed(true, "apart 0 5", 5);
        allowed(false, "apart 0 5", 0, 5);
        allowed(false, "apart 0 5", 5, NONE, NONE, 0);
    }

    static void promise22Near() {
        allowed(true, "near 0 5");
        allowed(true, "near 0 5", 0);
        allowed(true, "near 0 5", 5);
        allowed(true, "near 0 5", 5, 0);
        allowed(false, "near 0 5", 0, 5);
        allowed(false, "near 0 5", NONE, 0, 5);
        allowed(false, "near 0 5", NONE, 5, 0);
        allowed(true, "near 0 5", NONE, 5, NONE, 0);
        allowed(false, "near 0 5", NONE, 0, NONE, 5);
    }

    static void promise22AllOfSeveral() {
        allowed(true, "apart 0 1;with 2 3;never 4 0", 0, 2, 3);
        allowed(false, "apart 0 1;with 2 3;never 4 0", 0, 2);
        allowed(false, "apart 0 1;with 2 3;never 4 0", 4);
        allowed(false, "apart 0 1;with 2 3;never 4 0", 0, 1);
    }

    static void promise23NoSuchSceneLightSeat() {
        sceneLightSeat("step", 0, 0, 0, 0);
    }

    static void promise23NoneIfNoneIsBetter() {
        LampSheets x = told(alike(1, 1), "", "dark 0 0 1 1", "half 0 0 12 12");
        due(NONE, x, "step", 0, 0, 0);
        due(NONE, x, "step", 2, 0, 0);
        x.put(0, 0);
        due(NONE, x, "step", 1, 0, 0);
    }

    static void promise23NoSlotsOrNoSheets() {
        due(NONE, told(Edge.made(""), "dark 0 0 1 1"), "step", 0, 0, 0);
        LampSheets x = told(new LampSheets(), "dark 0 0 1 1");
        x.slot(1, 0, 0);
        due(NONE, x, "step", 0, 0, 0);
    }

    static void promise23FirstAndLastAnswer() {
        LampSheets x = told(alike(1, 1), "");
        x.put(0, 0);
        due(0, x, "step", 0, 0, 0);
        LampSheets y = new LampSheets();
        for (int n = 0; n < 6; n++) {
            Edge.sheet(y, 7, n == 5 ? Edge.only(0) : "cut 0 0 5 5");
        }
        for (int n = 0; n < 4; n++) {
            y.slot(1, n == 3 ? 0 : 12, 0);
        }
        told(y, "dark 0 0 1 1");
        due(36, y, "step", 0, 0, 0);
    }

    static void promise23FewestWrongFirst() {
        LampSheets x = Edge.made(Edge.only(0), Edge.only(0, 1), Edge.only(0, 1, 2));
        x.slot(1, 1, 0);
        x.slot(1, 0, 0);
        told(x, "dark 0 0 3 1");
        due(13, x, "step", 0, 0, 0);
    }

    static void promise23LeastSlotThenNoneThenLeastSheet() {
        LampSheets x = told(alike(3, 2), "dark 0 0 1 1");
        due(1, x, "step", 0, 0, 0);
        Edge.rules(x, "never 0 0");
        due(2, x, "step", 0, 0, 0);
        LampSheets y = told(Edge.made(Edge.only(0), "cut 0 0 5 5"), "");
        y.slot(1, 0, 0);
        y.put(0, 0);
        due(0, y, "step", 0, 0, 0);
        Edge.rules(y, "with 0 1");
        due(0, y, "step", 0, 0, 0);
    }

    static void promise23SheetMayComeFromAnotherSlot() {
        LampSheets x = Edge.made(Edge.only(0));
        x.slot(1, 12, 12);
        x.slot(1, 0, 0);
        x.put(1, 0);
        told(x, "");
        due(1, x, "step", 0, 0, 0);
        Edge.rules(x, "never 0 0");
        due(10, x, "step", 0, 0, 0);
    }

    static void promise23OnlyToWhatIsAllowed() {
        LampSheets x = told(alike(2, 1), "dark 0 0 1 1");
        Edge.rules(x, "with 0 1");
        due(NONE, x, "step", 0, 0, 0);
        Edge.rules(x, "never 0 0");
        due(2, x, "step", 0, 0, 0);
    }

    static void promise23SixSheetsAndRules() {
        LampSheets x = told(alike(6, 1), "dark 0 0 1 1", "");
        Edge.rules(x, "with 0 1");
        due(3, x, "step", 0, 0, 0);
        Edge.rules(x, "with 0 1;with 1 2;with 2 3;with 3 4");
        due(6, x, "step", 0, 0, 0);
        due(NONE, x, "step", 1, 0, 0);
    }

    static void promise23NothingIsPut() {
        LampSheets x = told(alike(2, 1), "dark 0 0 1 1");
        x.step(0, 0, 0);
        due(NONE, x, "in", 0);
    }

    static void promise24NoSuchScene() {
        Edge.index("seats", 0, 0, 2, 0, 0);
    }

    static void promise24NoSuchLight() {
        Edge.index("seats", 1, 0, 2, 0, 0);
    }

    static void promise24NoneAndAll() {
        LampSheets x = told(new LampSheets(), "", "dark 0 0 1 1");
        due(127, x, "seats", 0, 0);
        due(0, x, "seats", 1, 0);
    }

    static void promise24FirstAndLastSeat() {
        LampSheets x = Edge.made(Edge.only(0));
        x.slot(2, 4, 0);
        x.put(0, 0);
        told(x, "dark 1 0 2 2", "dark 7 0 2 2", "dark 4 0 2 2", "dark 0 0 2 2", "dark 8 0 2 2");
        int[] due = {1, 64, 8, 0, 0};
        for (int scene = 0; scene < due.length; scene++) {
            due(due[scene], x, "seats", scene, 0);
        }
    }

    static void promise31NoSuchSlot() {
        Edge.index("together", 0, NONE, 2, 0);
        due(Check.NO_SUCH, new LampSheets(), "together", 0);
    }

    static void promise31NothingWasSeen() {
        LampSheets x = alike(2, 1);
        due(0, x, "together", NONE);
        due(NONE, x, "together", 0);
        due(0, new LampSheets(), "together", NONE);
    }

    static void promise31SixThatWereSeen() {
        LampSheets x = told(alike(1, 1), "half 0 0 12 12");
        for (int n = 0; n < 6; n++) {
            x.seen(0, 0, 0);
        }
        due(864, x, "together", NONE);
        due(NONE, x, "together", 0);
    }

    static void promise31TheSixthCountsToo() {
        LampSheets x = told(alike(2, 1), "any 0 0 12 12", "dark 0 0 1 1");
        for (int n = 0; n < 5; n++) {
            x.seen(0, 0, 0);
        }
        due(NONE, x, "together", 0);
        x.seen(1, 2, 3);
        due(0, x, "together", NONE);
        due(0, x, "together", 0);
    }

    static void promise31TheFirstOfSeveral() {
        LampSheets x = told(alike(3, 2), "dark 0 0 1 1");
        x.seen(0, 0, 0);
        due(NONE, x, "together", 0);
        due(0, x, "together", 1);
        Edge.rules(x, "never 0 1;never 1 1;never 2 1;never 0 0");
        due(1, x, "together", 0);
        due(NONE, x, "together", 1);
    }

    static void promise31FewestSheetsGoAheadOfNoneInSlotZero() {
        LampSheets x = oneOrTwo();
        x.seen(0, 0, 0);
        due(0, x, "together", 0);
        due(NONE, x, "together", 1);
        due(NONE, x, "together", 2);
    }

    /** A sheet by each light, a scene by each light and from another seat. */
    private static LampSheets threeViews() {
        LampSheets x = new LampSheets();
        for (int light = 0; light < 3; light++) {
            Edge.sheet(x, 1 << light, Edge.only(0));
        }
        x.slot(2, 4, 0);
        x.slot(2, 4, 4);
        told(x, "", "dark 5 0 2 2", "dark 2 4 2 2");
        x.seen(1, 0, 1);
        x.seen(2, 1, -2);
        x.seen(0, 2, 3);
        return x;
    }

    static void promise31EachByItsLightAndSeat() {
        LampSheets x = threeViews();
        due(0, x, "together", NONE);
        due(0, x, "together", 0);
        due(1, x, "together", 1);
        x.seen(1, 0, 0);
        due(4, x, "together", NONE);
    }

    static void promise32NoSuchSceneLightSeat() {
        sceneLightSeat("bound", 0, 0, 0, 0);
    }

    static void promise32NoneAndAll() {
        LampSheets x = told(Edge.made(""), "half 0 0 12 12", "dark 0 0 12 12", "");
        x.slot(3, 0, 0);
        due(144, x, "bound", 0, 0, 0);
        due(0, x, "bound", 1, 0, 0);
        due(0, x, "bound", 2, 0, 0);
    }

    static void promise32OnlyByWhatIsAllowed() {
        LampSheets x = told(alike(2, 1), "dark 0 0 2 1");
        due(1, x, "bound", 0, 0, 0);
        Edge.rules(x, "with 0 1");
        due(2, x, "bound", 0, 0, 0);
    }

    static void promise32NoSlots() {
        due(1, told(Edge.made(""), "dark 11 11 1 1"), "bound", 0, 0, 0);
    }

    static void promise33NoSuchSheet() {
        Edge.index("helps", 0, 0, 2, 0, 0, 0, 0);
    }

    static void promise33NoSuchSceneLightSeat() {
        sceneLightSeat("helps", 1, 0, 0, 0, 0);
    }

    private static LampSheets withoutSheet(int slot) {
        LampSheets x = Edge.house();
        x.put(slot, NONE);
        return x;
    }

    static void promise33InNoSlot() {
        for (int sheet = 0; sheet < 3; sheet++) {
            int gone = sheet;
            Edge.refused(Check.WRONG_STATE, () -> withoutSheet(gone), "helps", sheet, 0, 0, 0);
        }
    }

    static void promise33NoSuchGoesAheadOfNoSlot() {
        Edge.refused(Check.NO_SUCH, () -> withoutSheet(0), "helps", 0, 3, 0, 0);
        Edge.refused(Check.NO_SUCH, () -> withoutSheet(0), "helps", 0, 0, 3, 0);
        Edge.refused(Check.NO_SUCH, () -> withoutSheet(0), "helps", 0, 0, 0, 4);
    }

    static void promise33BelowZeroNothingAndMore() {
        LampSheets x = told(Edge.made(""), "", "dark 0 0 12 12", "any 0 0 12 12");
        x.slot(3, 0, 0);
        x.put(0, 0);
        due(-144, x, "helps", 0, 0, 0, 0);
        due(144, x, "helps", 0, 1, 0, 0);
        due(0, x, "helps", 0, 2, 0, 0);
        due(0, x, "in", 0);
    }

    static void promise33OthersStay() {
        LampSheets x = Edge.made(Edge.only(0), Edge.only(1));
        x.slot(1, 0, 0);
        x.slot(1, 0, 0);
        x.put(0, 0);
        x.put(1, 1);
        told(x, "dark 0 0 2 1");
        due(1, x, "helps", 0, 0, 0, 0);
        due(1, x, "helps", 1, 0, 0, 0);
    }

    static void promise33WithoutThatLight() {
        LampSheets x = new LampSheets();
        Edge.sheet(x, 1, "");
        x.slot(3, 0, 0);
        x.put(0, 0);
        told(x, "");
        due(-144, x, "helps", 0, 0, 0, 0);
        due(0, x, "helps", 0, 0, 1, 0);
    }

    static void promise34NoSuchSheet() {
        Edge.index("anew", 0, 0, 2, 0, 0, 0, 0);
    }

    static void promise34NoSuchSceneLightSeat() {
        sceneLightSeat("anew", 1, 0, 0, 0, 0);
    }

    private static LampSheets wide() {
        LampSheets x = Edge.house();
        x.lamp(1);
        return x;
    }

    static void promise34WidthIsOne() {
        Edge.refused(Check.WRONG_STATE, SceneBounds::wide, "anew", 0, 0, 0, 0);
    }

    static void promise34InNoSlot() {
        Edge.refused(Check.WRONG_STATE, () -> withoutSheet(0), "anew", 0, 0, 0, 0);
    }

    static void promise34MaskHasNotThatLight() {
        Edge.refused(Check.WRONG_STATE, Edge::house, "anew", 1, 0, 2, 0);
        Edge.refused(Check.WRONG_STATE, Edge::house, "anew", 2, 0, 1, 0);
        Edge.refused(Check.WRONG_STATE, Edge::house, "anew", 2, 0, 2, 0);
        Edge.answers(Edge.house(), "anew", 1, 0, 1, 0);
    }

    static void promise34NoSuchGoesAheadOfAllElse() {
        Edge.refused(Check.NO_SUCH, SceneBounds::wide, "anew", 3, 0, 0, 0);
        Edge.refused(Check.NO_SUCH, SceneBounds::wide, "anew", 0, 3, 0, 0);
        Edge.refused(Check.NO_SUCH, () -> withoutSheet(0), "anew", 0, 0, 3, 0);
        Edge.refused(Check.NO_SUCH, Edge::house, "anew", 2, 0, 1, 4);
    }

    static void promise34NoneAndAllCells() {
        LampSheets x = told(Edge.made("", "cut 0 0 5 5"), "", "dark 0 0 5 5", "any 0 0 12 12");
        x.slot(1, 0, 0);
        x.put(0, 0);
        due(ALL, x, "anew", 0, 0, 0, 0);
        due(0, x, "anew", 0, 1, 0, 0);
        due(0, x, "anew", 0, 2, 0, 0);
        x.put(0, 1);
        due(0, x, "anew", 1, 0, 0, 0);
        due(ALL, x, "anew", 1, 1, 0, 0);
        due(0, x, "anew", 1, 2, 0, 0);
    }

    static void promise34AsItIsIfAsMany() {
        LampSheets x = told(Edge.made("", "cut 0 0 5 5"), "dark 0 0 1 2", "dark 0 0 1 1", "dark 0 0 2 1;dark 0 1 1 1");
        x.slot(2, 0, 0);
        x.put(0, 0);
        due(ALL & ~1, x, "anew", 0, 0, 0, 0);
        due(ALL, x, "anew", 0, 1, 0, 0);
        x.put(0, 1);
        due(0, x, "anew", 1, 0, 0, 0);
        due(0, x, "anew", 1, 1, 0, 0);
        due(1, x, "anew", 1, 2, 0, 0);
    }

    static void promise34CellsBeyondTheScreenStay() {
        LampSheets x = told(Edge.made(""), "", "dark 0 0 12 12");
        x.slot(1, 11, 11);
        x.put(0, 0);
        due(1, x, "anew", 0, 0, 0, 0);
        due(0, x, "anew", 0, 1, 0, 0);
        x.slot(1, 12, 0);
        x.put(1, 0);
        due(0, x, "anew", 0, 0, 0, 0);
    }

    static void promise34WhatOthersCoverStays() {
        LampSheets x = told(Edge.made("", "cut 0 0 5 5", ""), "dark 0 0 5 5");
        x.slot(1, 0, 0);
        x.slot(1, 0, 0);
        x.put(0, 1);
        x.put(1, 0);
        due(0, x, "anew", 1, 0, 0, 0);
        due(0, x, "anew", 0, 0, 0, 0);
    }

    static void promise34NothingIsCut() {
        LampSheets x = told(Edge.made(""), "");
        x.slot(1, 0, 0);
        x.put(0, 0);
        x.anew(0, 0, 0, 0);
        due(ALL, x, "dark", 0);
        due(25, x, "shades", 2, 0, 0);
    }

    static void promise42NoSuchSceneLightSeat() {
        sceneLightSeat("seen", 0, 0, 0, 0);
    }

    static void promise42SixAtMost() {
        LampSheets x = told(new LampSheets(), "");
        for (int n = 1; n <= 6; n++) {
            due(n, x, "seen", 0, 0, 0);
        }
        due(6, x, "count", 4);
        Edge.refused(Check.TOO_MANY, Edge::fullHouse, "seen", 0, 0, 0);
        Edge.refused(Check.TOO_MANY, Edge::fullHouse, "seen", 5, 2, 3);
    }

    static void promise42NoSuchGoesAheadOfTooMany() {
        Edge.refused(Check.NO_SUCH, Edge::fullHouse, "seen", 6, 0, 0);
        Edge.refused(Check.NO_SUCH, Edge::fullHouse, "seen", -1, 0, 0);
        Edge.refused(Check.NO_SUCH, Edge::fullHouse, "seen", 0, 3, 0);
        Edge.refused(Check.NO_SUCH, Edge::fullHouse, "seen", 0, 0, -4);
    }

    static void promise43NoSuchSlot() {
        Edge.index("guess", 0, NONE, 2, 0);
        due(Check.NO_SUCH, new LampSheets(), "guess", 0);
    }

    static void promise43NothingWasSeen() {
        due(1, new LampSheets(), "guess", NONE);
        LampSheets x = alike(6, 4);
        due(1045, x, "guess", NONE);
        for (int slot = 0; slot < 4; slot++) {
            due(NONE, x, "guess", slot);
        }
        Edge.rules(x, "with 0 1;with 1 2;with 2 3;with 3 4;with 4 5");
        due(1, x, "guess", NONE);
    }

    static void promise43ThereIsNone() {
        LampSheets x = told(alike(1, 2), "dark 5 5 1 1");
        x.seen(0, 0, 0);
        due(0, x, "guess", NONE);
        due(-2, x, "guess", 0);
        due(-2, x, "guess", 1);
        due(Check.NO_SUCH, x, "guess", 2);
    }

    static void promise43NoneIsAllowed() {
        LampSheets x = told(alike(1, 1), "dark 0 0 1 1");
        x.seen(0, 0, 0);
        due(1, x, "guess", NONE);
        due(0, x, "guess", 0);
        Edge.rules(x, "never 0 0");
        due(0, x, "guess", NONE);
        due(-2, x, "guess", 0);
    }

    static void promise43AllThatWasSeen() {
        LampSheets x = told(alike(1, 1), "dark 0 0 1 1", "any 0 0 12 12", "");
        for (int n = 0; n < 5; n++) {
            x.seen(n == 0 ? 0 : 1, 0, 0);
        }
        due(1, x, "guess", NONE);
        x.seen(2, 0, 0);
        due(0, x, "guess", NONE);
    }

    static void promise43EachByItsLightAndSeat() {
        LampSheets x = threeViews();
        due(1, x, "guess", NONE);
        due(0, x, "guess", 0);
        due(1, x, "guess", 1);
    }

    static void promise43FewestSheetsGoAheadOfNoneInSlotZero() {
        LampSheets x = oneOrTwo();
        x.seen(0, 0, 0);
        due(11, x, "guess", NONE);
        due(0, x, "guess", 0);
        due(NONE, x, "guess", 1);
        due(NONE, x, "guess", 2);
    }

    static void promise43TheFirstOfSeveral() {
        LampSheets x = told(alike(2, 2), "dark 0 0 1 1");
        x.seen(0, 0, 0);
        due(6, x, "guess", NONE);
        due(NONE, x, "guess", 0);
        due(0, x, "guess", 1);
        Edge.rules(x, "with 0 1");
        due(2, x, "guess", NONE);
        due(0, x, "guess", 0);
        due(1, x, "guess", 1);
    }
}
