import java.io.IOException;
import java.nio.file.Files;
import java.nio.file.Path;

/** The lines of Java in README.md are those that run here, and answer what stands beside them. */
public final class ReadmeTest {
    private static final String BEGIN = "// from README.md\n";
    private static final String END = "        // so far from README.md";

    private ReadmeTest() {
    }

    public static void main(String[] args) throws IOException {
        String own = Files.readString(Path.of("src/test/java/ReadmeTest.java"));
        String lines = own.substring(own.lastIndexOf(BEGIN) + BEGIN.length(), own.lastIndexOf(END));
        String shown = "```java\n" + lines.replace("\n        ", "\n").strip() + "\n```\n";
        if (!Files.readString(Path.of("README.md")).contains(shown)) {
            Check.fail("README.md shows other lines than those that run here");
        }
        example();
        Check.end();
    }

    private static void example() {
        // from README.md
        LampSheets theatre = new LampSheets();
        theatre.feed(0x63757420, 0x31203120, 0x33203300, 0, 0);          // "cut 1 1 3 3"
        theatre.end(11);
        int ring = theatre.sheet(7);                                     // it keeps off all three lights
        int slot = theatre.slot(2, 0, 0);                                // twice as large, from the SPOT (0, 0) on
        theatre.put(slot, ring);
        int full = theatre.shades(2, 0, 0);                              // 64 SPOTS are in full shade
        theatre.feed(0x6461726B, 0x20302030, 0x20313020, 0x31300000, 0); // "dark 0 0 10 10"
        theatre.end(14);
        int scene = theatre.scene();
        int wrong = theatre.wrong(scene, 0, 0, LampSheets.NONE);         // 36: the ring has a hole
        int cells = theatre.anew(ring, scene, 0, 0);                     // 473536: the hole's nine CELLS, as bits
        // so far from README.md
        expect(64, full);
        expect(36, wrong);
        expect(473536, cells);
    }

    private static void expect(int want, int got) {
        if (got != want) {
            Check.fail("answered " + got + ", due is " + want);
        }
    }
}
