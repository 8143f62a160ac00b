/** The example of README.md answers what README.md says. */
public final class ReadmeTest {
    private static final Checks checks = new Checks();

    public static void main(String[] args) {
        checks.topic("README.md");
        PatternTables x = new PatternTables();
        x.extend(0, 0);
        x.extend(0, 7);
        checks.due("extend(0, 4)", 3, x.extend(0, 4));
        x.grow(0);
        x.grow(2);
        x.grow(5);
        checks.due("grow(4)", 4, x.grow(4));
        checks.due("whole()", true, x.whole());
        checks.due("fitsAt(0)", 1, x.fitsAt(0));
        checks.due("fitsAt(1)", 0, x.fitsAt(1));
        checks.due("gapAt(0, 0, 0)", 1, x.gapAt(0, 0, 0));
        checks.due("size(1)", 2, x.size(1));
        checks.due("bare()", 3, x.bare());
        checks.due("kinds()", 2, x.kinds());
        checks.due("grow(5)", PatternTables.FULL, x.grow(5));
        checks.due("next(0, 1)", PatternTables.NONE, x.next(0, 1));
        checks.end();
    }
}
