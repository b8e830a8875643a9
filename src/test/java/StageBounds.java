/** Promises 11 to 18, 27 and 28 (slots, lamp, hands, shadows) at their bounds. */
final class StageBounds {
    private static final int NONE = Edge.NONE;
    private static final int FAR = Edge.FAR;
    private static final int LOW = Edge.LOW;

    private StageBounds() {
    }

    private static void due(Object want, LampSheets x, String name, Object... args) {
        Edge.due(want, x, name, args);
    }

    /** One sheet in one slot. */
    private static LampSheets lit(int width, int k, int x, int y, String text) {
        LampSheets made = Edge.made(text);
        made.lamp(width);
        made.slot(k, x, y);
        made.put(0, 0);
        return made;
    }

    private static int at(int x, int y) {
        return 12 * y + x;
    }

    static void promise11KFromOneToThree() {
        Edge.argument("slot", 0, 1, 3, 1, 0, 0);
    }

    static void promise11XFromMinusTwelveToTwelve() {
        Edge.argument("slot", 1, -12, 12, 1, 0, 0);
    }

    static void promise11YFromMinusTwelveToTwelve() {
        Edge.argument("slot", 2, -12, 12, 1, 0, 0);
    }

    static void promise11FourSlotsFromZeroOn() {
        LampSheets x = new LampSheets();
        for (int n = 0; n < 4; n++) {
            due(n, x, "slot", 1, 0, 0);
            due(NONE, x, "in", n);
        }
        Edge.refused(Check.TOO_MANY, Edge::fullHouse, "slot", 1, 0, 0);
        Edge.refused(Check.TOO_MANY, Edge::fullHouse, "slot", 3, -12, 12);
    }

    static void promise11WrongNumberGoesAheadOfTooMany() {
        Edge.refused(Check.WRONG_ARGUMENT, Edge::fullHouse, "slot", 0, 0, 0);
        Edge.refused(Check.WRONG_ARGUMENT, Edge::fullHouse, "slot", 1, 13, 0);
        Edge.refused(Check.WRONG_ARGUMENT, Edge::fullHouse, "slot", 1, 0, -13);
    }

    static void promise12ZeroOrOne() {
        Edge.argument("lamp", 0, 0, 1, 0);
    }

    static void promise12WhatItWas() {
        LampSheets x = new LampSheets();
        due(0, x, "lamp", 0);
        due(0, x, "lamp", 1);
        due(1, x, "lamp", 1);
        due(Check.WRONG_ARGUMENT, x, "lamp", 2);
        due(1, x, "lamp", 0);
        due(0, x, "count", 5);
    }

    static void promise13OneOrTwo() {
        Edge.argument("hands", 0, 1, 2, 1);
    }

    static void promise13HowManyThereWere() {
        LampSheets x = new LampSheets();
        due(2, x, "hands", 2);
        due(2, x, "hands", 1);
        due(1, x, "hands", 1);
        due(Check.WRONG_ARGUMENT, x, "hands", 0);
        due(1, x, "hands", 2);
        due(2, x, "count", 6);
    }

    static void promise14NoSuchSlot() {
        Edge.index("put", 0, 0, 2, 0, 0);
        Edge.index("put", 0, 0, 2, 0, NONE);
    }

    static void promise14NoSuchSheet() {
        Edge.index("put", 1, NONE, 2, 0, 0);
    }

    static void promise14NoneIntoASlot() {
        LampSheets x = lit(0, 1, 0, 0, "");
        due(0, x, "put", 0, NONE);
        due(NONE, x, "in", 0);
        due(NONE, x, "put", 0, NONE);
        due(0, x, "count", 7);
    }

    static void promise14WhatIsThereAlready() {
        LampSheets x = lit(0, 1, 0, 0, "");
        due(0, x, "put", 0, 0);
        due(0, x, "in", 0);
        due(1, x, "count", 7);
    }

    static void promise14InNoOtherSlot() {
        LampSheets x = Edge.house();
        due(0, x, "put", 0, 2);
        due(2, x, "in", 0);
        due(1, x, "in", 1);
        due(NONE, x, "in", 2);
        due(2, x, "count", 7);
        due(NONE, x, "put", 2, 2);
        due(NONE, x, "in", 0);
    }

    static void promise14NoneLeavesTheOtherSlots() {
        LampSheets x = Edge.house();
        due(0, x, "put", 0, NONE);
        due(NONE, x, "in", 0);
        due(1, x, "in", 1);
        due(2, x, "in", 2);
    }

    static void promise14MayBeWhatIsNotAllowed() {
        LampSheets x = Edge.house();
        due(0, x, "put", 0, 2);
        due(false, x, "allowed");
        due(2, x, "in", 0);
    }

    static void promise15NoSuchSlot() {
        Edge.index("in", 0, 0, 2, 0);
        due(Check.NO_SUCH, Edge.fullHouse(), "in", 4);
    }

    static void promise15NoneIsThere() {
        LampSheets x = Edge.made("");
        x.slot(1, 0, 0);
        due(NONE, x, "in", 0);
    }

    static void promise16NoSuchSpot() {
        Edge.index("shade", 0, 0, 143, 0, 0, 0);
    }

    static void promise16NoSuchLight() {
        Edge.index("shade", 1, 0, 2, 0, 0, 0);
    }

    static void promise16NoSuchSeat() {
        Edge.index("shade", 2, -3, 3, 0, 0, 0);
    }

    static void promise16NothingInSlots() {
        LampSheets x = Edge.made("");
        due(0, x, "shade", 0, 0, 0);
        x.slot(3, 0, 0);
        due(0, x, "shade", 143, 2, -3);
    }

    static void promise16FirstAndLastSpotOfACell() {
        for (int k = 1; k <= 3; k++) {
            LampSheets x = lit(0, k, 1, 2, Edge.only(6));
            int left = 1 + k;
            int top = 2 + k;
            due(2, x, "shade", at(left, top), 0, 0);
            due(2, x, "shade", at(left + k - 1, top + k - 1), 0, 0);
            due(0, x, "shade", at(left - 1, top), 0, 0);
            due(0, x, "shade", at(left, top - 1), 0, 0);
            due(0, x, "shade", at(left + k, top), 0, 0);
            due(0, x, "shade", at(left, top + k), 0, 0);
        }
    }

    static void promise16TheLinesEndIsNotTheNextLinesBegin() {
        LampSheets x = lit(0, 2, 11, 0, Edge.only(0));
        due(2, x, "shade", at(11, 0), 0, 0);
        due(2, x, "shade", at(11, 1), 0, 0);
        due(0, x, "shade", at(0, 1), 0, 0);
        due(0, x, "shade", at(0, 2), 0, 0);
        LampSheets y = lit(0, 2, -1, 5, Edge.only(0));
        due(2, y, "shade", at(0, 5), 0, 0);
        due(2, y, "shade", at(0, 6), 0, 0);
        due(0, y, "shade", at(11, 4), 0, 0);
        due(0, y, "shade", at(11, 5), 0, 0);
    }

    static void promise16NoHalfShadeWhereKIsOne() {
        LampSheets x = lit(1, 1, 0, 0, Edge.only(12));
        due(2, x, "shade", at(2, 2), 0, 0);
        due(0, x, "shade", at(1, 2), 0, 0);
    }

    static void promise16OneStepWhereKIsTwo() {
        LampSheets x = lit(1, 2, 1, 1, "");
        due(0, x, "shade", at(0, 5), 0, 0);
        due(1, x, "shade", at(1, 5), 0, 0);
        due(2, x, "shade", at(2, 5), 0, 0);
        due(2, x, "shade", at(9, 5), 0, 0);
        due(1, x, "shade", at(10, 5), 0, 0);
        due(0, x, "shade", at(11, 5), 0, 0);
        due(1, x, "shade", at(5, 1), 0, 0);
        due(2, x, "shade", at(5, 2), 0, 0);
        due(2, x, "shade", at(5, 9), 0, 0);
        due(1, x, "shade", at(5, 10), 0, 0);
    }

    static void promise16TwoStepsWhereKIsThree() {
        LampSheets x = lit(1, 3, -7, -7, "");
        due(2, x, "shade", at(5, 5), 0, 0);
        due(1, x, "shade", at(6, 5), 0, 0);
        due(1, x, "shade", at(7, 5), 0, 0);
        due(0, x, "shade", at(8, 5), 0, 0);
        due(1, x, "shade", at(5, 6), 0, 0);
        due(1, x, "shade", at(5, 7), 0, 0);
        due(0, x, "shade", at(5, 8), 0, 0);
    }

    static void promise16StepsAlongXAndYTogether() {
        LampSheets two = lit(1, 2, 0, 0, "cut 0 0 1 1");
        due(2, two, "shade", at(2, 2), 0, 0);
        due(1, two, "shade", at(2, 1), 0, 0);
        due(1, two, "shade", at(1, 2), 0, 0);
        LampSheets three = lit(1, 3, 0, 0, "cut 0 0 1 1");
        due(1, three, "shade", at(3, 3), 0, 0);
        due(2, three, "shade", at(4, 3), 0, 0);
        due(2, three, "shade", at(3, 4), 0, 0);
        due(1, three, "shade", at(4, 2), 0, 0);
        due(2, three, "shade", at(5, 2), 0, 0);
    }

    static void promise16PlacesBeyondTheScreenAlike() {
        LampSheets covered = lit(1, 2, -1, -1, "");
        due(2, covered, "shade", at(0, 0), 0, 0);
        LampSheets bare = lit(1, 2, 0, -1, "");
        due(1, bare, "shade", at(0, 0), 0, 0);
        due(2, bare, "shade", at(1, 0), 0, 0);
        LampSheets right = lit(1, 3, 0, 0, "");
        due(2, right, "shade", at(11, 11), 0, 0);
        LampSheets short1 = lit(1, 3, -2, -2, "");
        due(1, short1, "shade", at(11, 5), 0, 0);
        due(2, short1, "shade", at(10, 5), 0, 0);
        LampSheets short2 = lit(1, 3, -1, -1, "");
        due(2, short2, "shade", at(11, 11), 0, 0);
        LampSheets short3 = lit(1, 2, 2, 2, "");
        due(1, short3, "shade", at(11, 11), 0, 0);
        due(2, lit(1, 2, 3, 3, ""), "shade", at(11, 11), 0, 0);
    }

    static void promise16HalfShadeOfOneAndOfTwo() {
        LampSheets x = new LampSheets();
        Edge.sheet(x, 1, Edge.only(0));
        Edge.sheet(x, 3, Edge.only(0));
        Edge.sheet(x, 7, Edge.only(0));
        x.lamp(1);
        for (int n = 0; n < 3; n++) {
            x.slot(2, 0, 0);
            x.put(n, n);
        }
        due(2, x, "shade", 0, 0, 0);
        due(2, x, "shade", 0, 1, 0);
        due(1, x, "shade", 0, 2, 0);
        x.put(2, NONE);
        due(2, x, "shade", 0, 0, 0);
        due(1, x, "shade", 0, 1, 0);
        due(0, x, "shade", 0, 2, 0);
    }

    static void promise16FullShadeOfOneAndHalfOfAnother() {
        LampSheets x = lit(1, 1, 0, 0, Edge.only(0));
        Edge.sheet(x, 7, Edge.only(0));
        x.slot(2, 0, 0);
        x.put(1, 1);
        due(2, x, "shade", at(0, 0), 0, 0);
        due(1, x, "shade", at(1, 1), 0, 0);
    }

    static void promise16OutermostSeats() {
        LampSheets one = lit(0, 1, 5, 5, Edge.only(0));
        due(2, one, "shade", at(5, 5), 0, -3);
        due(2, one, "shade", at(5, 5), 0, 3);
        LampSheets two = lit(0, 2, 5, 5, Edge.only(0));
        due(2, two, "shade", at(2, 5), 0, -3);
        due(0, two, "shade", at(4, 5), 0, -3);
        due(2, two, "shade", at(8, 5), 0, 3);
        due(0, two, "shade", at(7, 5), 0, 3);
        LampSheets three = lit(0, 3, 6, 5, Edge.only(0));
        due(2, three, "shade", at(0, 5), 0, -3);
        due(2, three, "shade", at(2, 5), 0, -3);
        due(0, three, "shade", at(3, 5), 0, -3);
        due(0, three, "shade", at(11, 5), 0, 3);
        due(2, three, "shade", at(10, 5), 0, 2);
        due(0, three, "shade", at(9, 5), 0, 2);
    }

    static void promise17ShadesZeroToTwo() {
        Edge.argument("shades", 0, 0, 2, 0, 0, 0);
    }

    static void promise17NoSuchLight() {
        Edge.index("shades", 1, 0, 2, 0, 0, 0);
    }

    static void promise17NoSuchSeat() {
        Edge.index("shades", 2, -3, 3, 0, 0, 0);
    }

    static void promise17NoSuchGoesAheadOfNoShade() {
        for (int shade : new int[] {-1, 3, LOW, FAR}) {
            Edge.refused(Check.NO_SUCH, Edge::house, "shades", shade, 3, 0);
            Edge.refused(Check.NO_SUCH, Edge::house, "shades", shade, -1, 0);
            Edge.refused(Check.NO_SUCH, Edge::house, "shades", shade, 0, -4);
            Edge.refused(Check.NO_SUCH, Edge::house, "shades", shade, 0, 4);
        }
    }

    static void promise17NoneAndAllSpots() {
        LampSheets x = lit(0, 3, 0, 0, "");
        due(144, x, "shades", 2, 0, 0);
        due(0, x, "shades", 1, 0, 0);
        due(0, x, "shades", 0, 0, 0);
        x.put(0, NONE);
        due(144, x, "shades", 0, 0, 0);
        due(0, x, "shades", 2, 0, 0);
    }

    /** By K, X, Y, the seat: so many spots of the screen are left of an all dark sheet. */
    static void promise17AsFarAsThereAreSpots() {
        int[][] cases = {{1, 12, 0, 0, 0}, {1, 11, 11, 0, 1}, {1, -4, -4, 0, 1}, {1, -5, 0, 0, 0}, {1, 0, 12, 0, 0},
            {1, 7, 7, 0, 25}, {1, 8, 7, 0, 20}, {1, -12, -12, 0, 0}, {2, -10, 0, 0, 0}, {2, -9, 0, 0, 10},
            {2, 2, 2, 0, 100}, {2, 3, 2, 0, 90}, {2, 0, -10, 0, 0}, {2, 0, -9, 0, 10}, {3, -12, -12, 0, 9},
            {3, -12, 0, 0, 36}, {3, 12, 12, 0, 0}, {3, 11, 11, 0, 1}, {3, 0, -12, 0, 36}, {3, 12, 0, -3, 72},
            {3, -12, 0, 3, 108}, {3, 12, 0, 3, 0}, {3, -12, 0, -3, 0}, {2, 12, 0, -3, 30}, {2, -12, 0, 3, 10},
            {1, 12, 0, -3, 0}, {1, 11, 0, 3, 5}, {3, -12, -12, 3, 27}};
        for (int[] c : cases) {
            LampSheets x = lit(0, c[0], c[1], c[2], "");
            due(c[4], x, "shades", 2, 0, c[3]);
            due(144 - c[4], x, "shades", 0, 1, c[3]);
        }
    }

    static void promise17HalfShadeAtTheEdges() {
        LampSheets two = lit(1, 2, 1, 1, "");
        due(64, two, "shades", 2, 0, 0);
        due(36, two, "shades", 1, 0, 0);
        LampSheets three = lit(1, 3, 0, 0, "");
        due(100, three, "shades", 2, 0, 0);
        due(44, three, "shades", 1, 0, 0);
        LampSheets one = lit(1, 1, 1, 1, "");
        due(25, one, "shades", 2, 0, 0);
        due(0, one, "shades", 1, 0, 0);
    }

    static void promise17TwoHalfShadesAreOneWhole() {
        LampSheets x = lit(1, 2, 0, 0, Edge.only(0));
        Edge.sheet(x, 7, Edge.only(0));
        x.slot(2, 1, 1);
        x.put(1, 1);
        due(1, x, "shades", 2, 0, 0);
        due(6, x, "shades", 1, 0, 0);
        due(137, x, "shades", 0, 0, 0);
    }

    static void promise17TheSameSheetInASlotOfEachK() {
        LampSheets x = Edge.made("");
        int[] full = {144, 100, 25};
        int[] fullWide = {100, 64, 25};
        for (int slot = 0; slot < 3; slot++) {
            x.slot(3 - slot, 0, 0);
        }
        for (int slot = 0; slot < 3; slot++) {
            x.put(slot, 0);
            x.lamp(0);
            due(full[slot], x, "shades", 2, 0, 0);
            due(0, x, "shades", 1, 0, 0);
            x.lamp(1);
            due(fullWide[slot], x, "shades", 2, 0, 0);
            due(full[slot] - fullWide[slot], x, "shades", 1, 0, 0);
            due(144 - full[slot], x, "shades", 0, 0, 0);
        }
    }

    static void promise18NoSuchScene() {
        Edge.index("told", 0, 0, 2, 0, 0);
        due(Check.NO_SUCH, Edge.fullHouse(), "told", 6, 0);
    }

    static void promise18NoSuchSpot() {
        Edge.index("told", 1, 0, 143, 0, 0);
    }

    static void promise18FirstAndLastSpot() {
        LampSheets x = new LampSheets();
        Edge.scene(x, "dark 0 0 1 1;half 11 0 1 1;any 0 11 1 1;dark 11 11 1 1");
        due(2, x, "told", 0, 0);
        due(1, x, "told", 0, 11);
        due(0, x, "told", 0, 12);
        due(0, x, "told", 0, 131);
        due(3, x, "told", 0, 132);
        due(0, x, "told", 0, 142);
        due(2, x, "told", 0, 143);
    }

    static void promise18EachSpotOfSixScenes() {
        for (int scene = 0; scene < 6; scene++) {
            LampSheets x = new LampSheets();
            for (int n = 0; n < 6; n++) {
                Edge.scene(x, "dark " + n + " 0 1 12;half " + n + " 0 1 1;any 11 " + n + " 1 1");
            }
            for (int spot = 0; spot < 144; spot++) {
                boolean column = spot % 12 == scene;
                boolean any = spot == at(11, scene);
                due(any ? 3 : column && spot < 12 ? 1 : column ? 2 : 0, x, "told", scene, spot);
            }
        }
    }

    static void promise18LastMarkCounts() {
        String[] words = {"light", "half", "dark", "any"};
        for (int first = 0; first < 4; first++) {
            for (int last = 0; last < 4; last++) {
                LampSheets x = new LampSheets();
                Edge.scene(x, words[first] + " 3 3 6 6;" + words[last] + " 4 4 1 1");
                due(last, x, "told", 0, at(4, 4));
                due(first, x, "told", 0, at(5, 4));
                due(first, x, "told", 0, at(4, 5));
                due(0, x, "told", 0, at(2, 4));
            }
        }
    }

    static void promise27NoSuchLight() {
        Edge.index("idle", 0, 0, 2, 0, 0);
    }

    static void promise27NoSuchSeat() {
        Edge.index("idle", 1, -3, 3, 0, 0);
    }

    static void promise27NoneInSlots() {
        LampSheets x = Edge.made("");
        due(0, x, "idle", 0, 0);
        x.slot(1, 12, 12);
        due(0, x, "idle", 0, 0);
    }

    static void promise27BeyondTheScreen() {
        LampSheets x = lit(0, 3, 12, 0, "");
        due(1, x, "idle", 0, 0);
        due(0, x, "idle", 0, -1);
        due(1, x, "idle", 0, 3);
    }

    static void promise27WithoutThatLight() {
        LampSheets x = new LampSheets();
        for (int n = 0; n < 6; n++) {
            Edge.sheet(x, n == 5 ? 4 : 3, "");
        }
        x.slot(1, 0, 0);
        x.put(0, 5);
        due(32, x, "idle", 0, 0);
        due(32, x, "idle", 1, 0);
        due(0, x, "idle", 2, 0);
    }

    static void promise27EachOfTwoThatAreAlike() {
        LampSheets x = Edge.made("", "");
        x.slot(2, 0, 0);
        x.slot(2, 0, 0);
        x.put(0, 0);
        due(0, x, "idle", 0, 0);
        x.put(1, 1);
        due(3, x, "idle", 0, 0);
        x.lamp(1);
        due(0, x, "idle", 0, 0);
    }

    static void promise27WithoutCells() {
        due(1, lit(0, 3, 0, 0, "cut 0 0 5 5"), "idle", 0, 0);
    }

    static void promise28NoSuchFrame() {
        Edge.index("unlike", 0, 0, 2, 0, 0, 0, 0);
        Edge.index("unlike", 1, 0, 2, 0, 0, 0, 0);
        due(Check.NO_SUCH, Edge.fullHouse(), "unlike", 12, 0, 0, 0);
    }

    static void promise28NoSuchLight() {
        Edge.index("unlike", 2, 0, 2, 0, 0, 0, 0);
    }

    static void promise28NoSuchSeat() {
        Edge.index("unlike", 3, -3, 3, 0, 0, 0, 0);
    }

    static void promise28NoneAndAllSpots() {
        LampSheets x = lit(0, 3, 0, 0, "");
        x.frame();
        x.put(0, NONE);
        x.frame();
        due(0, x, "unlike", 0, 0, 0, 0);
        due(0, x, "unlike", 1, 1, 0, 0);
        due(144, x, "unlike", 0, 1, 0, 0);
        due(144, x, "unlike", 1, 0, 0, 0);
        x.lamp(1);
        due(144, x, "unlike", 0, 1, 0, 0);
    }

    static void promise28HalfAndFullAreUnlike() {
        LampSheets x = lit(1, 2, 0, 0, Edge.only(0));
        x.slot(1, 0, 0);
        x.frame();
        x.put(1, 0);
        x.frame();
        due(4, x, "unlike", 0, 1, 0, 0);
        x.lamp(0);
        due(3, x, "unlike", 0, 1, 0, 0);
    }

    static void promise28HalfInBothIsNotUnlike() {
        LampSheets x = lit(1, 2, 0, 0, Edge.only(0));
        Edge.sheet(x, 7, Edge.only(0));
        x.slot(2, 6, 6);
        x.frame();
        x.put(1, 1);
        x.frame();
        due(0, x, "unlike", 0, 0, 0, 0);
        due(4, x, "unlike", 0, 1, 0, 0);
        due(4, x, "unlike", 1, 0, 0, 0);
    }

    static void promise28FrameOfASlotAgo() {
        LampSheets x = Edge.made("");
        x.frame();
        x.slot(1, 0, 0);
        x.put(0, 0);
        x.frame();
        due(25, x, "unlike", 0, 1, 0, 0);
    }
}
