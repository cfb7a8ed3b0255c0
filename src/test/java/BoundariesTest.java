/** Every sentence of the document that names a bound, with the calls on both sides of it. */
public final class BoundariesTest {
    public static void main(String[] args) throws java.io.IOException {
        Check check = new Check("boundaries");
        Boundary b = new Boundary(check);
        new GameBoundaries(b).run();
        new ThermographBoundaries(b).run();
        new TableBoundaries(b).run();
        new TextBoundaries(b).run();
        new UndoBoundaries(b).run();
        b.allQuoted();
        check.end();
    }
}
