/** Promises 1 to 7 and 21, and the terms' sentences of texts, at their bounds. */
final class TextBounds {
    private static final int NONE = Edge.NONE;
    private static final int ALL = Edge.ALL;
    private static final int FAR = Edge.FAR;
    private static final int LOW = Edge.LOW;
    private static final int BLANKS = 0x20202020;
    private static final String[] STROKE_WORDS = {"cut", "paste", "turn", "flip"};
    private static final String[] MARK_WORDS = {"dark", "half", "light", "any"};
    private static final String[] RULE_WORDS = {"never", "with", "apart", "near"};

    private TextBounds() {
    }

    private static void due(Object want, LampSheets x, String name, Object... args) {
        Edge.due(want, x, name, args);
    }

    private static void wrongArgument(LampSheets x, String name, Object... args) {
        Check.due(Check.WRONG_ARGUMENT, x, name, args);
    }

    private static void rightStrokes(int dark, String text) {
        LampSheets x = Edge.withText(new LampSheets(), text);
        due(0, x, "sheet", 7);
        due(NONE, x, "fault");
        due(dark, x, "dark", 0);
    }

    private static void wrongStrokes(int fault, String text) {
        LampSheets x = Edge.withText(new LampSheets(), text);
        wrongArgument(x, "sheet", 7);
        due(fault, x, "fault");
        due(0, x, "count", 0);
    }

    private static LampSheets rightMarks(String text) {
        LampSheets x = Edge.withText(new LampSheets(), text);
        due(0, x, "scene");
        due(NONE, x, "fault");
        return x;
    }

    private static void wrongMarks(int fault, String text) {
        LampSheets x = Edge.withText(new LampSheets(), text);
        wrongArgument(x, "scene");
        due(fault, x, "fault");
        due(0, x, "count", 2);
    }

    /** Two sheets and one slot. */
    private static LampSheets pair() {
        LampSheets x = Edge.made("", "");
        x.slot(1, 0, 0);
        return x;
    }

    private static void rightRules(int rules, LampSheets x, String text) {
        Check.text(x, text);
        due(rules, x, "rules");
        due(NONE, x, "fault");
        due(rules, x, "count", 9);
    }

    private static void wrongRules(int fault, LampSheets x, String text) {
        int before = x.count(9);
        Check.text(x, text);
        wrongArgument(x, "rules");
        due(fault, x, "fault");
        due(before, x, "count", 9);
    }

    private static LampSheets emptyTape(LampSheets x) {
        x.end(0);
        return x;
    }

    private static LampSheets longTape(int bytes) {
        LampSheets x = emptyTape(Edge.house());
        for (int n = 0; n < bytes; n += 20) {
            x.feed(BLANKS, BLANKS, BLANKS, BLANKS, BLANKS);
        }
        x.end(bytes);
        return x;
    }

    static void promise01NothingIsThere() {
        LampSheets x = new LampSheets();
        for (int what = 0; what <= 9; what++) {
            due(what == 6 ? 2 : 0, x, "count", what);
        }
        due(NONE, x, "fault");
        due(true, x, "allowed");
        due(0, x, "row");
        due(false, x, "back");
        due(false, x, "end", 1);
    }

    static void promise01NoNumberTellsAThing() {
        LampSheets x = new LampSheets();
        String[] bySheet = {"strokes", "dark", "loose", "bridges", "holes", "lasts", "uses", "paste"};
        for (String name : bySheet) {
            due(Check.NO_SUCH, x, name, 0);
        }
        due(Check.NO_SUCH, x, "in", 0);
        due(Check.NO_SUCH, x, "put", 0, NONE);
        due(Check.NO_SUCH, x, "told", 0, 0);
        due(Check.NO_SUCH, x, "take", 0);
        due(Check.NO_SUCH, x, "moves", 0, 0);
    }

    static void promise01ObjectsShareNothing() {
        Edge.fullHouse();
        LampSheets x = Edge.house();
        LampSheets y = new LampSheets();
        due(0, y, "count", 0);
        due(false, y, "back");
        due(false, y, "end", 1);
        due(3, x, "count", 0);
    }

    static void promise01NoneIsMinusOne() {
        if (LampSheets.NONE != -1) {
            Check.fail("NONE is not -1");
        }
    }

    static void promise02TapeTakesFourHundredBytes() {
        LampSheets x = new LampSheets();
        for (int n = 20; n <= 400; n += 20) {
            due(n, x, "feed", BLANKS, BLANKS, BLANKS, BLANKS, BLANKS);
        }
        due(true, x, "end", 400);
    }

    static void promise02NoneComeBehindFourHundred() {
        Edge.refused(NONE, () -> longTape(400), "feed", 0x21212121, 0, 0, 0, 0);
        LampSheets x = longTape(400);
        due(NONE, x, "feed", 0x21212121, 0, 0, 0, 0);
        due(false, x, "end", 401);
        due(NONE, x, "feed", 0x21212121, 0, 0, 0, 0);
        due(0, x, "strokes", 0);
    }

    static void promise02LastLengthThatTakesTwentyMore() {
        due(400, longTape(380), "feed", BLANKS, BLANKS, BLANKS, BLANKS, BLANKS);
        LampSheets x = longTape(381);
        due(NONE, x, "feed", 0x21212121, 0, 0, 0, 0);
        due(false, x, "end", 382);
        due(true, x, "end", 381);
        due(0, x, "strokes", 0);
    }

    static void promise02HighestByteComesFirst() {
        LampSheets x = new LampSheets();
        due(20, x, "feed", 0x63757420, 0x34203420, 0x31203120, BLANKS, BLANKS);
        due(0, x, "sheet", 1);
        due(ALL & ~(1 << 24), x, "dark", 0);
    }

    static void promise02FiveNumbersInTheirOrder() {
        LampSheets x = new LampSheets();
        due(20, x, "feed", 0x666C6970, 0x3B666C69, 0x703B666C, 0x69703B66, 0x6C69703B);
        due(true, x, "end", 19);
        due(0, x, "sheet", 1);
    }

    static void promise02NumbersBelowZeroAreBytesToo() {
        for (int at = 0; at < 20; at++) {
            int[] words = {BLANKS, BLANKS, BLANKS, BLANKS, BLANKS};
            words[at / 4] |= 0xFF << 24 - 8 * (at % 4);
            LampSheets x = new LampSheets();
            due(20, x, "feed", words[0], words[1], words[2], words[3], words[4]);
            wrongArgument(x, "sheet", 1);
            due(at, x, "fault");
        }
    }

    static void promise02BytesComeBehindThoseThatStay() {
        LampSheets x = new LampSheets();
        x.feed(0x74757278, 0, 0, 0, 0);
        x.end(3);
        due(23, x, "feed", 0x6E202020, BLANKS, BLANKS, BLANKS, BLANKS);
        due(0, x, "sheet", 1);
    }

    static void promise02TapeThatIsUsedUpBeginsAnew() {
        LampSheets x = Edge.withText(new LampSheets(), "turn");
        x.sheet(1);
        due(20, x, "feed", BLANKS, BLANKS, BLANKS, BLANKS, BLANKS);
    }

    static void promise03EmptyTapeHasNoFirstByte() {
        LampSheets x = new LampSheets();
        due(true, x, "end", 0);
        due(false, x, "end", 1);
    }

    static void promise03AllBytesAndOneMore() {
        for (int length : new int[] {20, 37, 400}) {
            due(true, longTape(length), "end", length);
            due(false, longTape(length), "end", length + 1);
        }
    }

    static void promise03FewerAreThere() {
        Edge.refused(false, Edge::house, "end", 12);
        Edge.refused(false, Edge::house, "end", FAR);
    }

    static void promise03BelowZero() {
        Edge.refused(false, Edge::house, "end", -1);
        Edge.refused(false, Edge::house, "end", LOW);
    }

    static void promise03BytesBehindAreGone() {
        LampSheets x = Edge.withText(new LampSheets(), "turn;!");
        due(true, x, "end", 4);
        due(false, x, "end", 5);
        due(0, x, "sheet", 1);
        Check.text(x, "turn;!");
        due(true, x, "end", 0);
        due(20, x, "feed", BLANKS, BLANKS, BLANKS, BLANKS, BLANKS);
        due(1, x, "sheet", 1);
    }

    static void promise04MasksOneToSeven() {
        Edge.argument("sheet", 0, 1, 7, 1);
    }

    static void promise04MaskIsTheLightsByBits() {
        for (int mask = 1; mask <= 7; mask++) {
            LampSheets x = new LampSheets();
            due(0, x, "sheet", mask);
            x.slot(1, 0, 0);
            x.put(0, 0);
            for (int light = 0; light < 3; light++) {
                due((mask >> light & 1) * 25, x, "shades", 2, light, 0);
            }
        }
    }

    static void promise04SixSheetsFromZeroOn() {
        LampSheets x = new LampSheets();
        for (int n = 0; n < 6; n++) {
            due(n, x, "sheet", 7);
        }
        Edge.refused(Check.TOO_MANY, () -> Edge.withText(Edge.fullHouse(), "turn"), "sheet", 7);
        Edge.refused(Check.TOO_MANY, () -> emptyTape(Edge.fullHouse()), "sheet", 1);
    }

    static void promise04WrongTextLeavesNoSheet() {
        Edge.refused(Check.WRONG_ARGUMENT, () -> Edge.withText(Edge.house(), "cut 0 0 5 5;cut"), "sheet", 7);
    }

    static void promise04WrongTextGoesAheadOfTooMany() {
        Edge.refused(Check.WRONG_ARGUMENT, () -> Edge.withText(Edge.fullHouse(), "turn;"), "sheet", 7);
    }

    static void promise04WrongMaskGoesAheadOfTooMany() {
        Edge.refused(Check.WRONG_ARGUMENT, () -> Edge.withText(Edge.fullHouse(), "turn"), "sheet", 8);
        Edge.refused(Check.WRONG_ARGUMENT, () -> Edge.withText(Edge.fullHouse(), "turn"), "sheet", 0);
    }

    static void promise04AllCellsAreDarkAtFirst() {
        rightStrokes(ALL, "");
        rightStrokes(ALL, "   ");
        rightStrokes(ALL, " ".repeat(400));
    }

    static void promise04TwentyStrokesAtMost() {
        rightStrokes(ALL, Edge.times(20, "flip"));
        rightStrokes(ALL & ~(1 << 4), Edge.times(19, "flip") + ";cut 4 0 1 1");
        wrongStrokes(100, Edge.times(21, "flip"));
        wrongStrokes(100, Edge.times(30, "flip"));
        wrongStrokes(102, Edge.times(20, "flip") + ";  cut 0 0 1 1");
    }

    static void promise04XAndYFromZeroToFour() {
        rightStrokes(ALL & ~1, "cut 0 0 1 1");
        rightStrokes(ALL & ~(1 << 24), "cut 4 4 1 1");
        wrongStrokes(4, "cut 5 0 1 1");
        wrongStrokes(6, "cut 0 5 1 1");
        wrongStrokes(6, "paste 5 0 1 1");
        wrongStrokes(8, "paste 0 5 1 1");
        wrongStrokes(4, "cut 99 0 1 1");
        wrongStrokes(4, "cut -1 0 1 1");
    }

    static void promise04WAndHFromOneToFive() {
        rightStrokes(0, "cut 0 0 5 5");
        wrongStrokes(8, "cut 0 0 0 1");
        wrongStrokes(10, "cut 0 0 1 0");
        wrongStrokes(8, "cut 0 0 6 1");
        wrongStrokes(10, "cut 0 0 1 6");
        wrongStrokes(10, "paste 0 0 0 1");
        wrongStrokes(12, "paste 0 0 1 6");
    }

    static void promise04XAndWAtMostFiveTogether() {
        for (int x = 0; x < 5; x++) {
            int line = (31 << x) & 31;
            rightStrokes(ALL & ~line, "cut " + x + " 0 " + (5 - x) + " 1");
            wrongStrokes(8, "cut " + x + " 0 " + (6 - x) + " 1");
        }
    }

    static void promise04YAndHAtMostFiveTogether() {
        for (int y = 0; y < 5; y++) {
            int left = (1 << 5 * y) - 1;
            rightStrokes(left, "cut 0 " + y + " 5 " + (5 - y));
            wrongStrokes(10, "cut 0 " + y + " 5 " + (6 - y));
        }
    }

    static void promise04WAlongXAndHAlongY() {
        rightStrokes(ALL & ~Edge.bits(6, 7, 8), "cut 1 1 3 1");
        rightStrokes(ALL & ~Edge.bits(6, 11, 16), "cut 1 1 1 3");
        rightStrokes(Edge.bits(13, 14, 18, 19, 23, 24), "cut 0 0 5 5;paste 3 2 2 3");
    }

    static void promise04TurnAndFlip() {
        String few = Edge.only(0, 1, 7);
        rightStrokes(Edge.bits(4, 9, 13), few + ";turn");
        rightStrokes(Edge.bits(4, 3, 7), few + ";flip");
        rightStrokes(Edge.bits(0, 1, 7), few + ";" + Edge.times(4, "turn"));
        rightStrokes(Edge.bits(0, 1, 7), few + ";" + Edge.times(2, "flip"));
        rightStrokes(Edge.bits(24, 23, 17), few + ";turn;turn");
    }

    static void promise04SheetMayBeToldWithLooseCells() {
        LampSheets x = Edge.made(Edge.only(12));
        due(1 << 12, x, "loose", 0);
    }

    static void promise05NoSuchSheet() {
        Edge.index("strokes", 0, 0, 2, 0);
    }

    static void promise05NoSuchSheetGoesAheadOfWrongText() {
        Edge.refused(Check.NO_SUCH, () -> Edge.withText(Edge.house(), "turn;"), "strokes", 3);
        Edge.refused(Check.NO_SUCH, () -> Edge.withText(Edge.house(), "turn;"), "strokes", -1);
    }

    static void promise05WrongTextGoesAheadOfLoose() {
        Edge.refused(Check.WRONG_ARGUMENT,
                () -> Edge.withText(Edge.house(), "cut 1 1 3 3;paste 2 2 1 1;"), "strokes", 0);
        Edge.refused(Check.WRONG_ARGUMENT, () -> Edge.withText(Edge.made(Edge.only(12)), "turn;"), "strokes", 0);
    }

    static void promise05LooseThenNothingStays() {
        Edge.refused(Check.WRONG_STATE, () -> Edge.withText(Edge.house(), "cut 1 1 3 3;paste 2 2 1 1"), "strokes", 0);
    }

    static void promise05LooseOnTheWayIsNone() {
        LampSheets x = Edge.withText(Edge.made(""), "cut 1 1 3 3;paste 2 2 1 1;paste 2 3 1 1");
        due(7, x, "strokes", 0);
        Check.text(x, "cut 0 0 5 5;paste 2 2 1 1;cut 2 2 1 1");
        due(18, x, "strokes", 0);
    }

    static void promise05SheetThatIsLooseAlready() {
        Edge.refused(Check.WRONG_STATE, () -> Edge.made(Edge.only(12)), "strokes", 0);
        Edge.refused(Check.WRONG_STATE, () -> Edge.withText(Edge.made(Edge.only(12)), "turn"), "strokes", 0);
        LampSheets x = Edge.withText(Edge.made(Edge.only(12)), "paste 2 0 1 2");
        due(2, x, "strokes", 0);
    }

    static void promise05NoStrokeChangesNothing() {
        due(0, Edge.made(""), "strokes", 0);
        due(0, Edge.withText(Edge.made(""), "    "), "strokes", 0);
    }

    static void promise05NoneToAllCellsAreOthers() {
        due(0, Edge.withText(Edge.made(""), "paste 0 0 5 5"), "strokes", 0);
        due(0, Edge.withText(Edge.made(""), "cut 0 0 5 5;paste 0 0 5 5"), "strokes", 0);
        due(1, Edge.withText(Edge.made(""), "cut 0 0 1 1"), "strokes", 0);
        LampSheets x = Edge.withText(Edge.made(""), "cut 0 0 5 5");
        due(25, x, "strokes", 0);
        due(0, x, "dark", 0);
    }

    static void promise05TwentyStrokesAtMost() {
        LampSheets x = Edge.withText(Edge.made(""), Edge.times(19, "flip") + ";cut 4 0 1 1");
        due(1, x, "strokes", 0);
        Edge.refused(Check.WRONG_ARGUMENT,
                () -> Edge.withText(Edge.made(""), Edge.times(20, "flip") + ";cut 4 0 1 1"), "strokes", 0);
    }

    static void promise06SixScenesFromZeroOn() {
        LampSheets x = new LampSheets();
        for (int n = 0; n < 6; n++) {
            due(n, x, "scene");
        }
        Edge.refused(Check.TOO_MANY, () -> Edge.withText(Edge.fullHouse(), "dark 0 0 1 1"), "scene");
        Edge.refused(Check.TOO_MANY, () -> emptyTape(Edge.fullHouse()), "scene");
    }

    static void promise06WrongTextLeavesNoScene() {
        Edge.refused(Check.WRONG_ARGUMENT, () -> Edge.withText(Edge.house(), "dark 0 0 1 1;dark"), "scene");
        Edge.refused(Check.WRONG_ARGUMENT, Edge::house, "scene");
    }

    static void promise06WrongTextGoesAheadOfTooMany() {
        Edge.refused(Check.WRONG_ARGUMENT, () -> Edge.withText(Edge.fullHouse(), "dark 0 0 1"), "scene");
    }

    static void promise06LightAtFirst() {
        for (String text : new String[] {"", "  "}) {
            LampSheets x = rightMarks(text);
            for (int spot = 0; spot < 144; spot++) {
                due(0, x, "told", 0, spot);
            }
        }
    }

    static void promise06TwentyMarksAtMost() {
        LampSheets x = rightMarks(Edge.times(19, "any 0 0 1 1") + ";dark 5 5 1 1");
        due(2, x, "told", 0, 65);
        wrongMarks(240, Edge.times(20, "any 0 0 1 1") + ";dark 5 5 1 1");
        wrongMarks(242, Edge.times(20, "any 0 0 1 1") + ";  dark");
    }

    static void promise06XAndYFromZeroToEleven() {
        for (String word : MARK_WORDS) {
            int at = word.length() + 1;
            rightMarks(word + " 0 0 1 1");
            rightMarks(word + " 11 11 1 1");
            wrongMarks(at, word + " 12 0 1 1");
            wrongMarks(at + 2, word + " 0 12 1 1");
            wrongMarks(at, word + " 99 0 1 1");
        }
    }

    static void promise06WAndHFromOneToTwelve() {
        for (String word : MARK_WORDS) {
            int at = word.length() + 1;
            rightMarks(word + " 0 0 12 12");
            wrongMarks(at + 4, word + " 0 0 0 1");
            wrongMarks(at + 6, word + " 0 0 1 0");
            wrongMarks(at + 4, word + " 0 0 13 1");
            wrongMarks(at + 6, word + " 0 0 1 13");
        }
    }

    static void promise06XAndWAtMostTwelveTogether() {
        for (int x = 0; x < 12; x++) {
            String begin = "half " + x + " 3 ";
            LampSheets scene = rightMarks(begin + (12 - x) + " 1");
            due(1, scene, "told", 0, 36 + x);
            due(1, scene, "told", 0, 47);
            due(0, scene, "told", 0, 48);
            due(0, scene, "told", 0, 35 + x);
            wrongMarks(begin.length(), begin + (13 - x) + " 1");
        }
    }

    static void promise06YAndHAtMostTwelveTogether() {
        for (int y = 0; y < 12; y++) {
            String begin = "half 3 " + y + " 1 ";
            LampSheets scene = rightMarks(begin + (12 - y));
            due(1, scene, "told", 0, 12 * y + 3);
            due(1, scene, "told", 0, 135);
            due(y == 0 ? Check.NO_SUCH : 0, scene, "told", 0, 12 * y - 9);
            wrongMarks(begin.length(), begin + (13 - y));
        }
    }

    static void promise07NoneAheadOfAnyText() {
        LampSheets x = new LampSheets();
        due(NONE, x, "fault");
        x.feed(0, 0, 0, 0, 0);
        due(NONE, x, "fault");
    }

    static void promise07NoneOfARightTextBehindAWrongOne() {
        LampSheets x = Edge.withText(Edge.made(""), "!");
        wrongArgument(x, "sheet", 1);
        due(0, x, "fault");
        due(0, x, "strokes", 0);
        due(NONE, x, "fault");
        Check.text(x, " !");
        wrongArgument(x, "scene");
        due(1, x, "fault");
        due(0, x, "scene");
        due(NONE, x, "fault");
        Check.text(x, "  !");
        wrongArgument(x, "rules");
        due(2, x, "fault");
        due(0, x, "rules");
        due(NONE, x, "fault");
    }

    static void promise07NoneIfTheMaskWasNone() {
        for (int mask : new int[] {0, 8, -1, LOW, FAR}) {
            LampSheets x = Edge.withText(new LampSheets(), "turn;");
            wrongArgument(x, "sheet", 1);
            due(5, x, "fault");
            Check.text(x, "turn ;");
            wrongArgument(x, "sheet", mask);
            due(NONE, x, "fault");
        }
    }

    static void promise07NoneIfTheTextWasRightButRefused() {
        LampSheets x = Edge.withText(Edge.fullHouse(), "!");
        wrongArgument(x, "sheet", 1);
        due(Check.TOO_MANY, x, "sheet", 1);
        due(NONE, x, "fault");
        Check.text(x, "!");
        wrongArgument(x, "scene");
        due(Check.TOO_MANY, x, "scene");
        due(NONE, x, "fault");
        Check.text(x, "!");
        wrongArgument(x, "strokes", 0);
        Check.text(x, "cut 1 1 3 3;paste 2 2 1 1");
        due(Check.WRONG_STATE, x, "strokes", 0);
        due(NONE, x, "fault");
    }

    static void promise07WrongTextIsToldWhereThereAreTooMany() {
        LampSheets x = Edge.withText(Edge.fullHouse(), "turn;turn;");
        wrongArgument(x, "sheet", 1);
        due(10, x, "fault");
        Check.text(x, "any 0");
        wrongArgument(x, "scene");
        due(5, x, "fault");
    }

    static void promise07NoTextIsReadForNoSuchSheet() {
        LampSheets x = Edge.withText(Edge.made(""), "turn;!");
        wrongArgument(x, "strokes", 0);
        due(5, x, "fault");
        Check.text(x, "!");
        due(Check.NO_SUCH, x, "strokes", 1);
        due(5, x, "fault");
        Check.text(x, "turn");
        due(Check.NO_SUCH, x, "strokes", -1);
        due(5, x, "fault");
    }

    static void promise07OtherCallsLeaveIt() {
        LampSheets x = Edge.withText(Edge.house(), "turn;!");
        wrongArgument(x, "scene");
        due(0, x, "fault");
        x.feed(0, 0, 0, 0, 0);
        x.end(0);
        x.put(0, NONE);
        due(Check.NO_SUCH, x, "dark", 3);
        x.image();
        x.back();
        due(0, x, "fault");
    }

    static void promise07EmptyTextsAreRight() {
        for (String text : new String[] {"", " ", " ".repeat(399), " ".repeat(400)}) {
            rightStrokes(ALL, text);
            rightMarks(text);
            rightRules(0, pair(), text);
        }
    }

    static void promise07BlanksBetweenAll() {
        rightStrokes(ALL & ~1, "cut 0 0 1 1");
        rightStrokes(ALL & ~1, "   cut   0   0   1   1   ");
        rightStrokes(ALL & ~1, "flip;cut 4 0 1 1;flip");
        rightStrokes(ALL & ~1, "  flip  ;  cut  4  0  1  1  ;  flip  ");
    }

    static void promise07BlanksMayBeMissing() {
        rightStrokes(ALL & ~1, "cut0 0 1 1");
        wrongStrokes(3, "cut0011");
        wrongStrokes(8, "cut 0 0 11");
    }

    static void promise07OnlyByte32IsABlank() {
        for (char other : new char[] {0, 9, 10, 13, 31, 33, 127, 160, 255}) {
            wrongStrokes(4, "turn" + other);
            wrongStrokes(0, other + "turn");
            wrongStrokes(3, "cut" + other + "0 0 1 1");
            wrongStrokes(0, String.valueOf(other));
        }
    }

    static void promise07WordsAreAToZ() {
        for (char other : new char[] {'`', '{', 'A', 'Z', '_', '-', '0', 233}) {
            wrongStrokes(4, "turn" + other);
            wrongStrokes(0, other + "turn");
        }
        for (char more : new char[] {'a', 'z'}) {
            wrongStrokes(0, "turn" + more);
            wrongStrokes(0, more + "turn");
        }
        wrongStrokes(0, "TURN");
        wrongStrokes(0, "Turn");
    }

    static void promise07WordsThatAreNone() {
        for (String word : new String[] {"c", "cu", "cuts", "tur", "fli", "past", "turnturn", "dark", "never", "any"}) {
            wrongStrokes(0, word);
            wrongStrokes(7, "turn ; " + word + " 0 0 1 1");
        }
        for (String word : new String[] {"dar", "darks", "hal", "ligh", "an", "anyy", "cut", "with"}) {
            wrongMarks(0, word);
            wrongMarks(14, "half 0 0 1 1; " + word + " 0 0 1 1");
        }
        for (String word : new String[] {"neve", "nevers", "wit", "apar", "nea", "turn", "light"}) {
            wrongRules(0, pair(), word);
            wrongRules(10, pair(), "with 0 1; " + word + " 0 1");
        }
    }

    static void promise07WordsOfOtherTexts() {
        for (String word : MARK_WORDS) {
            wrongStrokes(0, word + " 0 0 1 1");
            wrongRules(0, pair(), word + " 0 1");
        }
        for (String word : STROKE_WORDS) {
            wrongMarks(0, word + " 0 0 1 1");
            wrongRules(0, pair(), word + " 0 1");
        }
        for (String word : RULE_WORDS) {
            wrongStrokes(0, word + " 0 0 1 1");
            wrongMarks(0, word + " 0 0 1 1");
        }
    }

    static void promise07EachLetterOfAWordCounts() {
        for (String word : STROKE_WORDS) {
            for (int at = 0; at < word.length(); at++) {
                wrongStrokes(0, word.substring(0, at) + "q" + word.substring(at + 1) + " 0 0 1 1");
            }
        }
        for (String word : MARK_WORDS) {
            for (int at = 0; at < word.length(); at++) {
                wrongMarks(0, word.substring(0, at) + "q" + word.substring(at + 1) + " 0 0 1 1");
            }
        }
        for (String word : RULE_WORDS) {
            for (int at = 0; at < word.length(); at++) {
                wrongRules(0, pair(), word.substring(0, at) + "q" + word.substring(at + 1) + " 0 1");
            }
        }
    }

    static void promise07DigitsAreZeroToNine() {
        for (char other : new char[] {'/', ':', 'o', '-', '+', '.', 178}) {
            wrongStrokes(4, "cut " + other + " 0 1 1");
            wrongStrokes(11, "cut 0 0 1 1" + other);
        }
    }

    static void promise07NumbersOfOneOrTwoDigits() {
        rightStrokes(ALL & ~(1 << 20), "cut 00 04 01 01");
        wrongStrokes(4, "cut 000 0 1 1");
        wrongStrokes(6, "cut 0 001 1 1");
        wrongStrokes(8, "cut 0 0 001 1");
        wrongStrokes(10, "cut 0 0 1 001");
        wrongStrokes(4, "cut 4294967296 0 1 1");
        wrongStrokes(4, "cut " + "0".repeat(396));
        due(2, rightMarks("dark 09 01 1 1"), "told", 0, 21);
        wrongRules(5, pair(), "with 000 1");
        wrongRules(7, pair(), "with 0 001");
        rightRules(1, pair(), "with 00 01");
    }

    static void promise07TextsLengthIfMoreMustCome() {
        String whole = "cut 0 0 1 1";
        for (int length : new int[] {3, 4, 5, 6, 7, 8, 9, 10}) {
            wrongStrokes(length, whole.substring(0, length));
        }
        wrongStrokes(12, whole + ";");
        wrongStrokes(14, whole + " ; ");
        wrongStrokes(9, "cut 0    ");
        wrongMarks(13, "half 0 0 1 1;");
        wrongMarks(11, "half 0 0 1 ");
        wrongRules(9, pair(), "with 0 1;");
        wrongRules(5, pair(), "never");
        wrongRules(7, pair(), "never 1");
        wrongStrokes(100, Edge.times(20, "flip") + ";");
        wrongStrokes(102, Edge.times(20, "flip") + " ; ");
    }

    static void promise07ThingsThatCannotStandThere() {
        wrongStrokes(0, ";");
        wrongStrokes(1, " ;turn");
        wrongStrokes(5, "turn;;turn");
        wrongStrokes(5, "turn flip");
        wrongStrokes(5, "turn 0");
        wrongStrokes(12, "cut 0 0 1 1 1");
        wrongStrokes(11, "cut 0 0 1 1turn");
        wrongStrokes(6, "cut 0 ;");
        wrongStrokes(8, "cut 0 0 cut");
        wrongStrokes(0, "0");
        wrongRules(9, pair(), "with 0 1 0");
        wrongRules(7, pair(), "with 0 with");
    }

    static void promise07FirstOfSeveralWrongThings() {
        wrongStrokes(4, "cut 5 5 9 9;!");
        wrongStrokes(8, "cut 1 1 5 5");
        wrongStrokes(5, "turn;! ;?");
        wrongMarks(5, "dark 12 12 0 0");
        wrongRules(5, pair(), "with 2 2");
    }

    static void promise07TooManyAreToldByTheFirstWord() {
        wrongStrokes(100, Edge.times(20, "flip") + ";spin");
        wrongStrokes(101, Edge.times(20, "flip") + "; cut 9");
        wrongStrokes(100, Edge.times(20, "flip") + ";;");
        wrongStrokes(99, Edge.times(20, "flip") + ",flip");
    }

    static void promise07MoreMustComeBehindTwentyToo() {
        wrongStrokes(100, Edge.times(20, "flip") + ";");
        wrongStrokes(102, Edge.times(20, "turn") + ";  ");
        wrongMarks(280, Edge.times(20, "dark 0 0 12 1") + ";");
    }

    static void promise07LongestText() {
        rightStrokes(ALL & ~1, " ".repeat(389) + "cut 0 0 1 1");
        wrongStrokes(400, " ".repeat(395) + "turn;");
        wrongStrokes(399, " ".repeat(395) + "turn!");
        wrongStrokes(397, " ".repeat(397) + "tur");
        wrongMarks(400, " ".repeat(396) + "dark");
    }

    static void promise21NoTextNoRule() {
        LampSheets x = pair();
        x.put(0, 0);
        rightRules(1, x, "never 0 0");
        due(false, x, "allowed");
        rightRules(0, x, "");
        due(true, x, "allowed");
        rightRules(1, x, "never 0 0");
        rightRules(0, x, "    ");
        due(true, x, "allowed");
    }

    static void promise21InPlaceOfTheOneBefore() {
        LampSheets x = pair();
        x.put(0, 0);
        rightRules(3, x, "never 1 0;with 0 1;never 0 0");
        due(false, x, "allowed");
        rightRules(1, x, "never 1 0");
        due(true, x, "allowed");
    }

    static void promise21TwentyRulesAtMost() {
        LampSheets x = pair();
        x.put(0, 0);
        rightRules(20, x, Edge.times(19, "never 1 0") + ";never 0 0");
        due(false, x, "allowed");
        wrongRules(180, pair(), Edge.times(21, "with 0 1"));
        wrongRules(181, pair(), Edge.times(20, "with 0 1") + "; with");
    }

    static void promise21WrongTextLeavesTheRulesBefore() {
        Edge.refused(Check.WRONG_ARGUMENT, () -> Edge.withText(Edge.house(), "never 0 0;"), "rules");
        Edge.refused(Check.WRONG_ARGUMENT, () -> Edge.withText(Edge.house(), "never 0 0; with 2 2"), "rules");
        Edge.refused(Check.WRONG_ARGUMENT, Edge::house, "rules");
    }

    static void promise21SheetsThatAreThere() {
        rightRules(1, pair(), "never 1 0");
        wrongRules(6, pair(), "never 2 0");
        for (String word : new String[] {"with", "apart", "near"}) {
            int at = word.length() + 1;
            rightRules(1, pair(), word + " 1 0");
            rightRules(1, pair(), word + " 0 1");
            wrongRules(at, pair(), word + " 2 0");
            wrongRules(at + 2, pair(), word + " 0 2");
        }
        rightRules(1, Edge.fullHouse(), "with 5 0");
        wrongRules(5, Edge.fullHouse(), "with 6 0");
        wrongRules(7, Edge.fullHouse(), "with 0 6");
        wrongRules(5, new LampSheets(), "with 0 1");
    }

    static void promise21SlotsThatAreThere() {
        rightRules(1, pair(), "never 0 0");
        wrongRules(8, pair(), "never 0 1");
        rightRules(1, Edge.fullHouse(), "never 5 3");
        wrongRules(8, Edge.fullHouse(), "never 0 4");
        wrongRules(8, Edge.made(""), "never 0 0");
        wrongRules(6, new LampSheets(), "never 0 0");
    }

    static void promise21ThereByThen() {
        LampSheets x = pair();
        wrongRules(7, x, "with 0 2");
        x.sheet(1);
        rightRules(1, x, "with 0 2");
        wrongRules(8, x, "never 0 1");
        x.slot(1, 0, 0);
        rightRules(1, x, "never 0 1");
    }

    static void promise21TheSecondIsWrongIfItIsTheFirst() {
        for (String word : new String[] {"with", "apart", "near"}) {
            int at = word.length() + 3;
            wrongRules(at, pair(), word + " 1 1");
            wrongRules(at, pair(), word + " 0 0");
            wrongRules(at + 2, pair(), word + " 0   00");
        }
        LampSheets x = Edge.made("", "");
        x.slot(1, 0, 0);
        x.slot(1, 0, 0);
        rightRules(1, x, "never 1 1");
    }
}
