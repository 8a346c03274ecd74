import java.io.IOException;

/**
 * Every sentence of the document that names a boundary case (too small, too large, empty, full, a wrap-around, a refused
 * call) by a test of its own. Each test quotes its sentence, which must stand in the document; each promise has some.
 */
public final class BoundaryTest {
    public static void main(String[] args) throws IOException {
        Due due = new Due();
        Book book = new Book(due);
        new TapeBoundaries(due, book).look();
        new TextBoundaries(due, book).look();
        new ShedBoundaries(due, book).look();
        new RowBoundaries(due, book).look();
        new NoteBoundaries(due, book).look();
        new LayingBoundaries(due, book).look();
        new WeightBoundaries(due, book).look();
        book.close();
        due.end();
    }
}
