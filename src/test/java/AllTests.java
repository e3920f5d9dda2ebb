/** Runs every test of the project; ends with exit code 1 if one fails. */
public final class AllTests {
    private AllTests() {
    }

    public static void main(String[] args) {
        GorgeTests.run();
        ActsTests.run();
        SongsTests.run();
        HeardTests.run();
        SlotsTests.run();
        GorgeBounds.run();
        ActsBounds.run();
        SongsBounds.run();
        HeardBounds.run();
        SlotsBounds.run();
        ModelTests.run();
        LanguageTests.run();
        ReadmeTests.run();
        if (!Report.close()) {
            System.exit(1);
        }
    }
}
