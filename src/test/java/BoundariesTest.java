import java.io.IOException;

/** Each sentence of the document that names a boundary case, with checks of its own on both sides of it. */
public final class BoundariesTest {
    public static void main(String[] args) throws IOException {
        Sentences sentences = new Sentences();
        new OverviewBoundaries(sentences).checkAll();
        new TermsBoundaries(sentences).checkAll();
        new ServingBoundaries(sentences).checkAll();
        new RefusalBoundaries(sentences).checkAll();
        new TeamsBoundaries(sentences).checkAll();
        new JobsBoundaries(sentences).checkAll();
        new ReservationsBoundaries(sentences).checkAll();
        new SharesBoundaries(sentences).checkAll();
        sentences.end("BoundariesTest");
    }
}
