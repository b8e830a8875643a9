/** Promises 8 to 10, 25, 26, 29 and 39 to 41 (what is asked and done of one sheet) at their bounds. */
final class SheetBounds {
    private static final int NONE = Edge.NONE;
    private static final int ALL = Edge.ALL;
    private static final int EDGE_CELLS = 0x1F8C63F;
    private static final int[] INNER = {6, 7, 8, 11, 12, 13, 16, 17, 18};

    private SheetBounds() {
    }

    private static void due(Object want, LampSheets x, String name, Object... args) {
        Edge.due(want, x, name, args);
    }

    /** A sheet that is in every one of so many frames. */
    private static LampSheets shown(int frames, String text) {
        LampSheets x = Edge.made(text);
        x.slot(1, 0, 0);
        x.put(0, 0);
        for (int n = 0; n < frames; n++) {
            x.frame();
        }
        return x;
    }

    static void promise08NoSuchSheet() {
        Edge.index("dark", 0, 0, 2, 0);
        due(Check.NO_SUCH, Edge.fullHouse(), "dark", 6);
    }

    static void promise08AllAndNone() {
        LampSheets x = Edge.made("", "cut 0 0 5 5");
        due(33554431, x, "dark", 0);
        due(0, x, "dark", 1);
    }

    static void promise08FirstAndLastBit() {
        LampSheets x = Edge.made("cut 0 0 1 1", "cut 4 4 1 1", "cut 4 0 1 1", "cut 0 4 1 1");
        due(33554430, x, "dark", 0);
        due(16777215, x, "dark", 1);
        due(ALL - 16, x, "dark", 2);
        due(ALL - (1 << 20), x, "dark", 3);
    }

    static void promise09NoSuchSheet() {
        Edge.index("loose", 0, 0, 2, 0);
    }

    static void promise09NoneAtTheEdgeIsLoose() {
        for (int cell = 0; cell < 25; cell++) {
            boolean edge = (EDGE_CELLS >> cell & 1) != 0;
            due(edge ? 0 : 1 << cell, Edge.made(Edge.only(cell)), "loose", 0);
        }
    }

    static void promise09CornersDoNotHold() {
        due(Edge.bits(6), Edge.made(Edge.only(0, 6)), "loose", 0);
        due(0, Edge.made(Edge.only(1, 6)), "loose", 0);
        due(Edge.bits(12), Edge.made("cut 1 1 3 3;paste 2 2 1 1"), "loose", 0);
        due(Edge.bits(12), Edge.made(Edge.only(1, 6, 12)), "loose", 0);
        due(0, Edge.made(Edge.only(1, 6, 7, 12)), "loose", 0);
    }

    static void promise09AllAndNoneAreNotLoose() {
        due(0, Edge.made(""), "loose", 0);
        due(0, Edge.made("cut 0 0 5 5"), "loose", 0);
        due(0, Edge.made("cut 1 1 3 3"), "loose", 0);
        due(Edge.bits(INNER), Edge.made(Edge.only(INNER)), "loose", 0);
    }

    static void promise09AllHangByOneLongWay() {
        String spiral = Edge.only(2, 7, 8, 13, 18, 17, 16, 11);
        due(0, Edge.made(spiral), "loose", 0);
        due(Edge.bits(7, 8, 13, 18, 17, 16, 11), Edge.made(spiral + ";cut 2 0 1 1"), "loose", 0);
    }

    static void promise10NoSuchSheet() {
        Edge.index("bridges", 0, 0, 2, 0);
    }

    static void promise10NoneIsNeeded() {
        due(0, Edge.made(""), "bridges", 0);
        due(0, Edge.made("cut 0 0 5 5"), "bridges", 0);
        due(0, Edge.made(Edge.only(0)), "bridges", 0);
    }

    static void promise10OneToFour() {
        due(Edge.bits(1), Edge.made(Edge.only(6)), "bridges", 0);
        due(Edge.bits(2, 7), Edge.made(Edge.only(12)), "bridges", 0);
        due(Edge.bits(1, 11, 13), Edge.made(Edge.only(6, 8, 12, 16, 18)), "bridges", 0);
        due(Edge.bits(1, 3, 11, 13), Edge.made(Edge.only(6, 8, 16, 18)), "bridges", 0);
    }

    static void promise10LeastOfSeveral() {
        due(Edge.bits(1), Edge.made(Edge.only(6, 7)), "bridges", 0);
        due(Edge.bits(19), Edge.made(Edge.only(18)), "bridges", 0);
        due(Edge.bits(15), Edge.made(Edge.only(16)), "bridges", 0);
        due(Edge.bits(14), Edge.made(Edge.only(13)), "bridges", 0);
    }

    /** Edge cells that are dark can only help, so that NONE is never due. */
    static void promise10FourAreAlwaysEnough() {
        for (int shape = 0; shape < 512; shape++) {
            StringBuilder text = new StringBuilder("cut 0 0 5 5");
            int dark = 0;
            for (int i = 0; i < INNER.length; i++) {
                if ((shape >> i & 1) != 0) {
                    dark |= 1 << INNER[i];
                    text.append(";paste ").append(INNER[i] % 5).append(' ').append(INNER[i] / 5).append(" 1 1");
                }
            }
            LampSheets x = Edge.made(text.toString());
            int bridges = x.bridges(0);
            if (bridges < 0 || Integer.bitCount(bridges) > 4 || (bridges & dark) != 0) {
                Check.fail("bridges of " + dark + " are " + bridges);
                continue;
            }
            for (int cell = 0; cell < 25; cell++) {
                if ((bridges >> cell & 1) != 0) {
                    text.append(";paste ").append(cell % 5).append(' ').append(cell / 5).append(" 1 1");
                }
            }
            due(0, Edge.made(text.toString()), "loose", 0);
        }
    }

    static void promise25NoSuchSheet() {
        Edge.index("holes", 0, 0, 2, 0);
    }

    static void promise25NoneOneAndThirteen() {
        due(0, Edge.made(""), "holes", 0);
        due(1, Edge.made("cut 0 0 5 5"), "holes", 0);
        StringBuilder even = new StringBuilder("cut 0 0 1 1");
        for (int cell = 2; cell < 25; cell += 2) {
            even.append(";cut ").append(cell % 5).append(' ').append(cell / 5).append(" 1 1");
        }
        due(13, Edge.made(even.toString()), "holes", 0);
    }

    static void promise25CornersDoNotJoin() {
        due(2, Edge.made("cut 1 1 1 1;cut 2 2 1 1"), "holes", 0);
        due(1, Edge.made("cut 1 1 1 1;cut 2 2 1 1;cut 2 1 1 1"), "holes", 0);
        due(2, Edge.made("cut 3 1 1 1;cut 2 2 1 1"), "holes", 0);
    }

    static void promise25ALineDoesNotGoOnInTheNext() {
        for (int y = 0; y < 4; y++) {
            due(2, Edge.made("cut 4 " + y + " 1 1;cut 0 " + (y + 1) + " 1 1"), "holes", 0);
        }
    }

    static void promise26NoSuchSheet() {
        Edge.index("lasts", 0, 0, 2, 0);
    }

    static void promise26ZeroIfOneIsLoose() {
        due(0, Edge.made(Edge.only(12)), "lasts", 0);
        due(0, Edge.made(Edge.only(INNER)), "lasts", 0);
    }

    static void promise26NoneIfItFraysNoMoreAheadOfThat() {
        due(NONE, Edge.made(""), "lasts", 0);
        due(NONE, Edge.made("cut 0 0 5 5"), "lasts", 0);
        due(NONE, Edge.made("cut 1 1 3 3"), "lasts", 0);
        due(NONE, Edge.made(Edge.only(24)), "lasts", 0);
    }

    static void promise26SoManyTimes() {
        LampSheets x = Edge.made(Edge.only(2, 7, 12), Edge.only(0, 10, 11, 12));
        due(1, x, "lasts", 0);
        due(2, x, "lasts", 1);
        due(Edge.bits(2, 7, 12), x, "dark", 0);
        due(0, x, "uses", 0);
        due(8, Edge.made(Edge.only(0, 1, 2, 3, 4, 5, 9, 10, 11, 12)), "lasts", 0);
    }

    static void promise29NoSuchSheet() {
        Edge.index("shaped", 0, 0, 2, 0, 0);
    }

    static void promise29TwentyFiveBits() {
        Edge.argument("shaped", 1, 0, 33554431, 0, 0);
    }

    static void promise29NoSuchSheetGoesAheadOfWrongCells() {
        Edge.refused(Check.NO_SUCH, Edge::house, "shaped", 3, -1);
        Edge.refused(Check.NO_SUCH, Edge::house, "shaped", -1, ALL + 1);
    }

    static void promise29NoneToTwoStrokes() {
        LampSheets x = Edge.made("");
        due(0, x, "shaped", 0, ALL);
        due(1, x, "shaped", 0, 0);
        due(1, x, "shaped", 0, ALL - 1);
        due(2, x, "shaped", 0, ALL & ~Edge.bits(0, 24));
        due(NONE, x, "shaped", 0, ALL & ~Edge.bits(0, 12, 24));
    }

    static void promise29EachStrokeAlone() {
        LampSheets x = Edge.made(Edge.only(0, 1, 7));
        due(1, x, "shaped", 0, Edge.bits(4, 9, 13));
        due(1, x, "shaped", 0, Edge.bits(4, 3, 7));
        due(1, x, "shaped", 0, Edge.bits(0, 1));
        due(1, x, "shaped", 0, Edge.bits(0, 1, 7, 24));
        due(1, x, "shaped", 0, ALL);
    }

    static void promise29TwoTurnsAndNotThree() {
        LampSheets x = Edge.made(Edge.only(0, 1, 7));
        due(2, x, "shaped", 0, Edge.bits(24, 23, 17));
        due(NONE, x, "shaped", 0, Edge.bits(20, 15, 11));
    }

    static void promise29EveryBoxIsOneStroke() {
        LampSheets x = Edge.made("", "cut 0 0 5 5");
        for (int top = 0; top < 5; top++) {
            for (int left = 0; left < 5; left++) {
                for (int low = top; low < 5; low++) {
                    for (int right = left; right < 5; right++) {
                        int box = box(left, top, right, low);
                        due(1, x, "shaped", 0, ALL & ~box);
                        due(1, x, "shaped", 1, box);
                    }
                }
            }
        }
    }

    private static int box(int left, int top, int right, int low) {
        int box = 0;
        for (int cell = 0; cell < 25; cell++) {
            boolean inside = cell % 5 >= left && cell % 5 <= right && cell / 5 >= top && cell / 5 <= low;
            box |= inside ? 1 << cell : 0;
        }
        return box;
    }

    static void promise29TwoCellsAreOneStrokeIfSideBySide() {
        for (int first = 0; first < 25; first++) {
            LampSheets x = Edge.made("", "cut 0 0 5 5");
            for (int second = first + 1; second < 25; second++) {
                boolean beside = second == first + 5 || second == first + 1 && second % 5 != 0;
                due(beside ? 1 : 2, x, "shaped", 0, ALL & ~Edge.bits(first, second));
                due(beside ? 1 : 2, x, "shaped", 1, Edge.bits(first, second));
            }
        }
    }

    static void promise29ALineAndACellBesideAreTwoStrokes() {
        LampSheets x = Edge.made("");
        for (int n = 0; n < 5; n++) {
            int line = box(0, n, 4, n);
            int column = box(n, 0, n, 4);
            for (int cell = 0; cell < 25; cell++) {
                due((line >> cell & 1) != 0 ? 1 : 2, x, "shaped", 0, ALL & ~(line | 1 << cell));
                due((column >> cell & 1) != 0 ? 1 : 2, x, "shaped", 0, ALL & ~(column | 1 << cell));
            }
        }
    }

    /** A stroke goes over all from the first cell to the last, so that it does for those between as well. */
    static void promise29OneStrokeTakesAllBetween() {
        for (int before = 0; before < 32; before++) {
            StringBuilder row = new StringBuilder("turn");
            StringBuilder column = new StringBuilder("turn");
            for (int n = 0; n < 5; n++) {
                if ((before >> n & 1) != 0) {
                    row.append(";cut ").append(n).append(" 0 1 1");
                    column.append(";cut 4 ").append(n).append(" 1 1");
                }
            }
            LampSheets x = Edge.made(row.toString(), column.toString());
            for (int after = 0; after < 32; after++) {
                if ((before & ~after) == 0 && before != after) {
                    boolean one = (between(before ^ after) & ~after) == 0;
                    dueOneStroke(one, x.shaped(0, ALL & ~after));
                    dueOneStroke(one, x.shaped(1, ALL & ~inLastColumn(after)));
                }
            }
        }
    }

    private static void dueOneStroke(boolean one, int answer) {
        if (one != (answer == 1)) {
            Check.fail("shaped answered " + answer + ", one stroke is " + (one ? "" : "not ") + "enough");
        }
    }

    private static int between(int bits) {
        return (Integer.highestOneBit(bits) << 1) - Integer.lowestOneBit(bits);
    }

    private static int inLastColumn(int bits) {
        int cells = 0;
        for (int n = 0; n < 5; n++) {
            cells |= (bits >> n & 1) << 5 * n + 4;
        }
        return cells;
    }

    static void promise29CutThenPasteAndPasteThenCut() {
        int ring = Edge.bits(6, 7, 8, 11, 13, 16, 17, 18);
        due(2, Edge.made(""), "shaped", 0, ALL & ~ring);
        due(2, Edge.made("cut 0 0 5 5"), "shaped", 0, ring);
    }

    static void promise29ABoxAheadOfOrBehindATurnOrFlip() {
        LampSheets x = Edge.made(Edge.only(0, 1, 7));
        due(2, x, "shaped", 0, Edge.bits(4, 9, 13, 20));
        due(2, x, "shaped", 0, Edge.bits(4, 3, 7, 20));
        due(2, x, "shaped", 0, Edge.bits(4, 9));
        due(2, x, "shaped", 0, Edge.bits(4, 3));
        due(2, x, "shaped", 0, Edge.bits(24, 19, 13));
        due(2, x, "shaped", 0, Edge.bits(0, 5, 11));
    }

    static void promise29LooseCellsCountAsWell() {
        due(2, Edge.made(""), "shaped", 0, 1 << 12);
        due(1, Edge.made("cut 0 0 5 5"), "shaped", 0, 1 << 12);
    }

    static void promise29NothingIsDone() {
        LampSheets x = Edge.made("");
        x.shaped(0, 0);
        due(ALL, x, "dark", 0);
    }

    static void promise39OneToFiftyTimes() {
        Edge.argument("play", 0, 1, 50, 1);
    }

    static void promise39NoFrames() {
        LampSheets x = shown(0, "cut 0 0 1 1");
        due(0, x, "play", 50);
        due(0, x, "uses", 0);
    }

    static void promise39FramesWithoutASheet() {
        LampSheets x = new LampSheets();
        x.frame();
        due(0, x, "play", 50);
    }

    static void promise39TheTenthUse() {
        LampSheets x = shown(1, "cut 0 0 1 1");
        due(0, x, "play", 9);
        due(ALL - 1, x, "dark", 0);
        due(1, x, "play", 1);
        due(ALL & ~Edge.bits(0, 1), x, "dark", 0);
        due(0, x, "play", 9);
        due(1, x, "play", 1);
        due(ALL & ~Edge.bits(0, 1, 2), x, "dark", 0);
    }

    static void promise39TheTenthUseWithinOnePlay() {
        LampSheets x = shown(12, "cut 0 0 1 1");
        due(1, x, "play", 1);
        due(12, x, "uses", 0);
        due(1, x, "play", 1);
        due(24, x, "uses", 0);
    }

    static void promise39AllDarkNeverFrays() {
        LampSheets x = shown(12, "");
        due(0, x, "play", 50);
        due(ALL, x, "dark", 0);
        due(600, x, "uses", 0);
    }

    static void promise39TillNoneIsLeft() {
        LampSheets x = shown(12, "cut 0 0 1 1");
        due(24, x, "play", 50);
        due(0, x, "dark", 0);
        due(0, x, "play", 50);
        due(1200, x, "uses", 0);
    }

    static void promise39FirstCellByNumberThatHasOneBeside() {
        LampSheets x = shown(10, "cut 4 4 1 1");
        due(1, x, "play", 1);
        due(ALL & ~Edge.bits(24, 19), x, "dark", 0);
        LampSheets y = shown(10, "cut 2 2 1 1");
        due(1, y, "play", 1);
        due(ALL & ~Edge.bits(12, 7), y, "dark", 0);
    }

    static void promise39CornersAreNotBeside() {
        LampSheets x = shown(10, "cut 1 1 1 1");
        due(1, x, "play", 1);
        due(ALL & ~Edge.bits(6, 1), x, "dark", 0);
        LampSheets y = shown(10, "cut 3 1 1 1");
        due(1, y, "play", 1);
        due(ALL & ~Edge.bits(8, 3), y, "dark", 0);
    }

    static void promise39CellsFallWithoutAThrow() {
        LampSheets x = shown(10, Edge.only(2, 7, 12));
        due(1, x, "play", 1);
        due(Edge.bits(7, 12), x, "loose", 0);
    }

    static void promise40NoSuchSheet() {
        Edge.index("uses", 0, 0, 2, 0);
    }

    static void promise40NoneAtFirst() {
        LampSheets x = shown(12, "");
        due(0, x, "uses", 0);
        due(0, Edge.withText(x, "turn"), "uses", 0);
    }

    static void promise40OnlySheetsInFrames() {
        LampSheets x = Edge.made("", "");
        x.slot(1, 0, 0);
        x.put(0, 0);
        x.frame();
        x.put(0, 1);
        x.play(1);
        due(1, x, "uses", 0);
        due(0, x, "uses", 1);
    }

    static void promise40StrokesAndPasteLeaveThem() {
        LampSheets x = shown(1, "cut 0 0 1 1");
        x.play(15);
        x.paste(0);
        due(15, x, "uses", 0);
        Edge.withText(x, "cut 4 4 1 1").strokes(0);
        due(15, x, "uses", 0);
        due(0, x, "play", 4);
        due(1, x, "play", 1);
    }

    static void promise41NoSuchSheet() {
        Edge.index("paste", 0, 0, 2, 0);
    }

    static void promise41NothingWasWorn() {
        LampSheets x = Edge.made("cut 0 0 1 1");
        due(0, x, "paste", 0);
        due(ALL - 1, x, "dark", 0);
    }

    static void promise41AsItWasTold() {
        LampSheets x = shown(12, "cut 0 0 1 1");
        x.play(50);
        due(24, x, "paste", 0);
        due(ALL - 1, x, "dark", 0);
        due(0, x, "paste", 0);
    }

    static void promise41AsTheLatestStrokesLeftIt() {
        LampSheets x = shown(10, "cut 0 0 1 1");
        x.play(1);
        due(1, Edge.withText(x, "cut 4 4 1 1"), "strokes", 0);
        due(1, Edge.withText(x, "cut 4 3 1 1"), "strokes", 0);
        x.play(2);
        due(2, x, "paste", 0);
        due(ALL & ~Edge.bits(0, 1, 19, 24), x, "dark", 0);
    }

    static void promise41NoStrokesAreStrokesByHandToo() {
        LampSheets x = shown(10, "cut 0 0 1 1");
        x.play(1);
        due(0, Edge.withText(x, ""), "strokes", 0);
        due(0, x, "paste", 0);
        due(ALL & ~Edge.bits(0, 1), x, "dark", 0);
    }

    static void promise41RefusedStrokesLeaveNothing() {
        LampSheets x = shown(10, "cut 0 0 1 1");
        x.play(1);
        due(Check.WRONG_STATE, Edge.withText(x, "cut 1 1 3 3;paste 2 2 1 1"), "strokes", 0);
        due(Check.WRONG_ARGUMENT, Edge.withText(x, "cut 1 1 3 3;"), "strokes", 0);
        due(1, x, "paste", 0);
        due(ALL - 1, x, "dark", 0);
    }

    static void promise41LooseCellsComeBackToo() {
        LampSheets x = shown(10, Edge.only(12));
        due(1, x, "play", 1);
        due(1, x, "paste", 0);
        due(1 << 12, x, "loose", 0);
    }
}
