/** The calls of README.md answer what it says there. */
public final class ReadmeTest {
    public static void main(String[] args) {
        rule();
        list();
        machine();
        Due.close("ReadmeTest");
    }

    private static void rule() {
        StepBench x = new StepBench();
        x.draft(2);
        x.sheet(0, 2);
        x.entry(0, 1);
        x.entry(1, 3);
        x.lay(0);
        x.sheet(0, 2);
        x.entry(1, 1);
        x.lay(1);
        x.sheet(0, 2);
        x.entry(0, 2);
        x.entry(1, 2);
        x.lay(2);
        Due.is("seal()", 0, x.seal());
        Due.is("step(7)", 11, x.step(7));
        Due.is("until(7, 1, 100)", 11, x.until(7, 1, 100));
        Due.is("rings(3)", 1, x.rings(3));
        Due.is("row(0)", -10, x.row(0));
    }

    private static void list() {
        StepBench x = new StepBench();
        x.list();
        Due.is("fraction(3, 2)", 1, x.fraction(3, 2));
        Due.is("run(8, 3)", 27, x.run(8, 3));
        Due.throwsA("run(8, 4)", "NoSuchElementException", () -> x.run(8, 4));
        Due.is("law(1, 1, 0, 0, 0)", -1, x.law(1, 1, 0, 0, 0));
    }

    private static void machine() {
        StepBench x = new StepBench();
        Due.is("act(1, 0, 1, 2)", 0, x.act(1, 0, 1, 2));
        Due.is("act(0, 1, 0, 0)", 1, x.act(0, 1, 0, 0));
        Due.is("act(2, 0, 0, 0)", 2, x.act(2, 0, 0, 0));
        Due.is("go(5, 2, 0, 0, 100)", 1, x.go(5, 2, 0, 0, 100));
        Due.row("go(5, 2, 0, 0, 100)", x, 0, 7, 0, 0, 12);
        Due.is("made()", 7, x.made());
        Due.is("begins(5, 2, 0, 0)", 3168, x.begins(5, 2, 0, 0));
        Due.is("run(3168, 23)", 2187, x.run(3168, 23));
    }
}
